/** Promise 16: how many of a kind there are, and where. */
public final class CountTest {
    public static void main(String[] args) {
        StoneWall wall = Check.withHeap(new int[] {2, 1, 5}, new int[] {1, 1, 4}, new int[] {4, 1, 3});
        wall.heap(30, 0);
        wall.stones(0, 0, 2);
        wall.stones(1, 0, 1);
        counts(wall, 0, 2, 1, 0, 0, 3);
        wall.wall(0, 0, 6, 2, 1, 0);
        Check.due("plan()", wall.plan(), 6);
        counts(wall, 0, 2, 1, 0, 0, 3);
        wall.build();
        counts(wall, 0, 0, 0, 3, 0, 3);
        counts(wall, 1, 2, 0, 2, 0, 4);
        counts(wall, 2, 2, 0, 1, 0, 3);
        Check.due("frost(50)", wall.frost(50), 4);
        counts(wall, 0, 0, 0, 1, 2, 3);
        counts(wall, 1, 2, 0, 0, 2, 4);
        counts(wall, 2, 2, 0, 1, 0, 3);
        wrong(wall);
        wall.mend();
        counts(wall, 0, 0, 0, 3, 0, 3);
        wall.take(1);
        counts(wall, 0, 0, 3, 0, 0, 3);
        counts(wall, 1, 2, 2, 0, 0, 4);
        Check.end();
    }

    private static void counts(StoneWall wall, int kind, int... due) {
        int[] where = {0, 1, 5, 6, 7};
        for (int i = 0; i < where.length; i++) {
            Check.due("count(" + where[i] + ", " + kind + ")", wall.count(where[i], kind), due[i]);
        }
    }

    private static void wrong(StoneWall wall) {
        int[] wheres = {-1, 2, 3, 4, 8, Integer.MIN_VALUE, Integer.MAX_VALUE};
        for (int where : wheres) {
            Check.due("count(" + where + ", 0)", wall.count(where, 0), StoneWall.NONE);
        }
        int[] kinds = {-1, 3, 8, Integer.MIN_VALUE, Integer.MAX_VALUE};
        for (int kind : kinds) {
            for (int where = 0; where <= 7; where++) {
                Check.due("count(" + where + ", " + kind + ")", wall.count(where, kind), StoneWall.NONE);
            }
        }
    }
}
