/** Promise 4: a heap has so many of a kind, 0 to 60; no plan then; not while a wall is built. */
public final class StonesTest {
    public static void main(String[] args) {
        StoneWall wall = Check.withHeap(new int[] {2, 1, 60}, new int[] {1, 1, 0});
        wall.heap(1, 1);
        Check.due("count(0, 0)", wall.count(0, 0), 60);
        int[][] wrong = {{0, 0, 61}, {0, 0, -1}, {2, 0, 1}, {-1, 0, 1}, {0, 2, 1}, {0, -1, 1}, {5, 0, 1}, {0, 8, 1},
            {Integer.MAX_VALUE, 0, 1}, {0, Integer.MIN_VALUE, 1}, {0, 0, Integer.MAX_VALUE}};
        wall.wall(0, 0, 2, 1, 1, 0);
        Check.due("plan()", wall.plan(), 1);
        for (int[] w : wrong) {
            Check.due("stones(" + w[0] + ", " + w[1] + ", " + w[2] + ")", wall.stones(w[0], w[1], w[2]), false);
        }
        Check.due("look(2) after refused stones", wall.look(2), 1);
        Check.due("count(0, 0)", wall.count(0, 0), 60);
        Check.due("stones(0, 0, 60), the same number", wall.stones(0, 0, 60), true);
        Check.due("look(2) after stones", wall.look(2), 0);
        Check.due("stones(0, 0, 7), not 67", wall.stones(0, 0, 7), true);
        Check.due("count(0, 0)", wall.count(0, 0), 7);
        Check.due("count(1, 0)", wall.count(1, 0), 0);
        Check.due("count(0, 1)", wall.count(0, 1), 0);
        Check.due("stones(1, 1, 3)", wall.stones(1, 1, 3), true);
        Check.due("count(1, 1)", wall.count(1, 1), 3);
        wall.plan();
        wall.build();
        Check.due("stones(0, 0, 1) while built", wall.stones(0, 0, 1), false);
        Check.due("count(0, 0)", wall.count(0, 0), 6);
        Check.end();
    }
}
