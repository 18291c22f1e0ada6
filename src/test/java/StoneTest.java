/** Promise 8: what there is to know of a stone, of the plan or built. */
public final class StoneTest {
    public static void main(String[] args) {
        StoneWall wall = Check.withHeap(new int[] {3, 1, 2}, new int[] {2, 2, 1}, new int[] {1, 3, 1});
        wall.heap(12, -5);
        wall.stones(1, 1, 1);
        wall.wall(10, -5, 5, 2, 3, 1);
        Check.due("stone(0, 0) without a plan", Check.thrown(wall, 0, 0), Check.INDEX);
        Check.due("plan()", wall.plan(), 4);
        lies(wall);
        for (int i = 0; i < 4; i++) {
            Check.stone(wall, i, 5, 0);
            Check.stone(wall, i, 6, 0);
            Check.stone(wall, i, 7, StoneWall.NONE);
        }
        wrong(wall);
        Check.due("build()", wall.build(), 160);
        lies(wall);
        int[] heaps = {0, 1, 0, 0};
        for (int i = 0; i < 4; i++) {
            Check.stone(wall, i, 5, 99);
            Check.stone(wall, i, 6, 1);
            Check.stone(wall, i, 7, heaps[i]);
        }
        wrong(wall);
        wall.take(0);
        Check.due("stone(0, 0) after take", Check.thrown(wall, 0, 0), Check.INDEX);
        deeperThanWide();
        atTheFoot();
        Check.end();
    }

    private static void lies(StoneWall wall) {
        int[][] due = {{0, 0, 0, 6, 0}, {1, 0, 3, 2, 0}, {1, 1, 0, 0, 1}, {0, 1, 2, 3, 0}};
        for (int i = 0; i < due.length; i++) {
            for (int what = 0; what < 5; what++) {
                Check.stone(wall, i, what, due[i][what]);
            }
        }
    }

    private static void wrong(StoneWall wall) {
        int[] stones = {-1, 4, 144, Integer.MIN_VALUE, Integer.MAX_VALUE};
        for (int i : stones) {
            Check.due("stone(" + i + ", 0) throws", Check.thrown(wall, i, 0), Check.INDEX);
            Check.due("stone(" + i + ", 8) throws", Check.thrown(wall, i, 8), Check.INDEX);
        }
        int[] whats = {-1, 8, Integer.MIN_VALUE, Integer.MAX_VALUE};
        for (int what : whats) {
            Check.due("stone(3, " + what + ") throws", Check.thrown(wall, 3, what), Check.ELEMENT);
        }
    }

    private static void deeperThanWide() {
        StoneWall wall = Check.withHeap(new int[] {2, 3, 1});
        wall.wall(0, 0, 2, 1, 2, 0);
        wall.plan();
        Check.stone(wall, 0, 3, 0);
        Check.stone(wall, 0, 4, 1);
    }

    /** A stone that slipped is the same stone of the same heap: only whether it stands, and its hold, are others. */
    private static void atTheFoot() {
        StoneWall wall = Check.withHeap(new int[] {2, 1, 0}, new int[] {2, 2, 0});
        wall.heap(1, 1);
        wall.stones(1, 0, 2);
        wall.stones(1, 1, 1);
        wall.wall(0, 0, 6, 1, 2, 0);
        wall.plan();
        wall.build();
        Check.due("frost(50)", wall.frost(50), 2);
        int[][] due = {{0, 0, 0, 2, 0, 0, 0, 1}, {0, 0, 2, 2, 0, 49, 1, 1}, {1, 0, 4, 0, 1, 0, 0, 1}};
        for (int i = 0; i < due.length; i++) {
            for (int what = 0; what < 8; what++) {
                Check.stone(wall, i, what, due[i][what]);
            }
        }
    }
}
