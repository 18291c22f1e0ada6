/** Promise 2: kinds are numbered from 0 on; wrong ones, a ninth one, and one while a wall is built are refused. */
public final class KindTest {
    public static void main(String[] args) {
        limits();
        planAndWall();
        Check.end();
    }

    private static void limits() {
        StoneWall wall = new StoneWall();
        int[] lengths = {0, 7, -1, Integer.MIN_VALUE, Integer.MAX_VALUE};
        for (int length : lengths) {
            Check.due("kind(" + length + ", 1)", wall.kind(length, 1), StoneWall.NONE);
        }
        int[] depths = {0, 5, -1, Integer.MIN_VALUE, Integer.MAX_VALUE};
        for (int depth : depths) {
            Check.due("kind(1, " + depth + ")", wall.kind(1, depth), StoneWall.NONE);
        }
        Check.due("look(0)", wall.look(0), 0);
        Check.due("kind(1, 1)", wall.kind(1, 1), 0);
        Check.due("kind(6, 4)", wall.kind(6, 4), 1);
        Check.due("kind(6, 1)", wall.kind(6, 1), 2);
        Check.due("kind(1, 4)", wall.kind(1, 4), 3);
        for (int k = 4; k < 8; k++) {
            Check.due("kind(1, 1)", wall.kind(1, 1), k);
        }
        Check.due("kind(1, 1), the ninth", wall.kind(1, 1), StoneWall.NONE);
        Check.due("look(0)", wall.look(0), 8);
    }

    private static void planAndWall() {
        StoneWall wall = Check.withHeap(new int[] {2, 1, 5});
        wall.wall(0, 0, 2, 1, 1, 0);
        Check.due("plan()", wall.plan(), 1);
        Check.due("kind(7, 1)", wall.kind(7, 1), StoneWall.NONE);
        Check.due("look(2) after a refused kind", wall.look(2), 1);
        Check.due("kind(1, 1)", wall.kind(1, 1), 1);
        Check.due("look(2) after a kind", wall.look(2), 0);
        Check.due("count(0, 1) of a new kind", wall.count(0, 1), 0);
        Check.due("build()", wall.build(), StoneWall.NONE);
        wall.plan();
        wall.build();
        Check.due("kind(1, 1) while built", wall.kind(1, 1), StoneWall.NONE);
        Check.due("look(3)", wall.look(3), 1);
        wall.take(0);
        Check.due("kind(1, 1) after take", wall.kind(1, 1), 2);
    }
}
