/** Promise 12: each stone from the nearest heap that has its kind still, of several the lesser number. */
public final class BuildTest {
    public static void main(String[] args) {
        StoneWall wall = new StoneWall();
        wall.kind(1, 2);
        wall.heap(12, 4);
        wall.heap(8, 4);
        wall.heap(10, -3);
        wall.stones(0, 0, 2);
        wall.stones(1, 0, 2);
        wall.stones(2, 0, 1);
        wall.wall(10, 0, 4, 1, 2, 0);
        Check.due("build() without a plan", wall.build(), StoneWall.NONE);
        Check.due("plan()", wall.plan(), 4);
        // Ways: stone 0: 6, 6, 3; stone 1: 5, 7; stone 2: 4, 8; stone 3: 9 from heap 1 alone.
        Check.due("build()", wall.build(), 2 * (3 + 5 + 4 + 9));
        int[] heaps = {2, 0, 0, 1};
        for (int i = 0; i < 4; i++) {
            Check.stone(wall, i, 7, heaps[i]);
        }
        Check.due("count(0, 0)", wall.count(0, 0), 0);
        Check.due("count(1, 0)", wall.count(1, 0), 1);
        Check.due("count(2, 0)", wall.count(2, 0), 0);
        Check.due("build() again", wall.build(), StoneWall.NONE);
        Check.due("look(3)", wall.look(3), 1);
        wall.take(0);
        Check.due("build() after take", wall.build(), StoneWall.NONE);
        equalWays();
        eachFromItsOwnPlace();
        Check.end();
    }

    private static void equalWays() {
        StoneWall wall = new StoneWall();
        wall.kind(2, 1);
        wall.heap(0, -7);
        wall.heap(7, 0);
        wall.heap(0, 7);
        wall.stones(1, 0, 1);
        wall.stones(2, 0, 1);
        wall.wall(0, 0, 2, 2, 1, 0);
        wall.plan();
        Check.due("build()", wall.build(), 2 * 14);
        Check.stone(wall, 0, 7, 1);
        Check.stone(wall, 1, 7, 2);
    }

    /** A heap at either end of the wall, with enough for all: the way is from the stone's place, not from the wall's. */
    private static void eachFromItsOwnPlace() {
        StoneWall wall = new StoneWall();
        wall.kind(2, 1);
        wall.heap(0, 0);
        wall.heap(10, 0);
        wall.stones(0, 0, 9);
        wall.stones(1, 0, 9);
        wall.wall(0, 0, 10, 1, 1, 0);
        Check.due("plan()", wall.plan(), 5);
        Check.due("least()", wall.least(), 2 * (0 + 2 + 4 + 4 + 2));
        Check.due("build()", wall.build(), 2 * (0 + 2 + 4 + 4 + 2));
        int[] heaps = {0, 0, 0, 1, 1};
        for (int i = 0; i < heaps.length; i++) {
            Check.stone(wall, i, 7, heaps[i]);
        }
        Check.due("count(0, 0)", wall.count(0, 0), 6);
        Check.due("count(1, 0)", wall.count(1, 0), 7);
    }
}
