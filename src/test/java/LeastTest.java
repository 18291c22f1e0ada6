/** Promises 10 and 11: the least toil of all ways, and what one more stone in a heap would have saved. */
public final class LeastTest {
    public static void main(String[] args) {
        lessThanCarried();
        chainOfHeaps();
        withoutAPlan();
        fullHeap();
        Check.end();
    }

    /** A stone at place 0 and one at place 1; the nearest heap to both is the one at 1, with one stone. */
    private static void lessThanCarried() {
        StoneWall wall = new StoneWall();
        wall.kind(1, 3);
        wall.heap(1, 0);
        wall.heap(-2, 0);
        wall.stones(0, 0, 1);
        wall.stones(1, 0, 1);
        wall.wall(0, 0, 2, 1, 3, 0);
        Check.due("plan()", wall.plan(), 2);
        answers(wall);
        Check.due("build()", wall.build(), 3 * 4);
        answers(wall);
        wall.frost(50);
        wall.mend();
        answers(wall);
        wall.take(0);
        Check.due("least() after take", wall.least(), StoneWall.NONE);
        Check.due("saved(0, 0) after take", wall.saved(0, 0), StoneWall.NONE);
        wall.plan();
        Check.due("least() of the heaps as they are now", wall.least(), 3);
    }

    private static void answers(StoneWall wall) {
        Check.due("least()", wall.least(), 3 * 2);
        Check.due("saved(0, 0)", wall.saved(0, 0), 3);
        Check.due("saved(1, 0)", wall.saved(1, 0), 0);
        int[][] wrong = {{2, 0}, {-1, 0}, {0, 1}, {0, -1}, {Integer.MAX_VALUE, 0}, {0, Integer.MIN_VALUE}};
        for (int[] w : wrong) {
            Check.due("saved(" + w[0] + ", " + w[1] + ")", wall.saved(w[0], w[1]), StoneWall.NONE);
        }
    }

    /** Stones at 0 to 3, one heap at each of 1, 2, 3 with one stone, and one far off. */
    private static void chainOfHeaps() {
        StoneWall wall = new StoneWall();
        wall.kind(1, 1);
        for (int h = 0; h < 4; h++) {
            wall.heap(h == 3 ? -20 : h + 1, 0);
            wall.stones(h, 0, 1);
        }
        wall.wall(0, 0, 4, 1, 1, 0);
        Check.due("plan()", wall.plan(), 4);
        Check.due("least()", wall.least(), 20);
        Check.due("saved(0, 0)", wall.saved(0, 0), 19);
        Check.due("saved(1, 0)", wall.saved(1, 0), 18);
        Check.due("saved(2, 0)", wall.saved(2, 0), 17);
        Check.due("saved(3, 0)", wall.saved(3, 0), 0);
        Check.due("build()", wall.build(), 1 + 1 + 1 + 23);
    }

    private static void withoutAPlan() {
        StoneWall wall = Check.withHeap(new int[] {2, 2, 9}, new int[] {1, 1, 9});
        wall.wall(0, 3, 2, 1, 2, 0);
        Check.due("least(), no plan", wall.least(), StoneWall.NONE);
        Check.due("saved(0, 0), no plan", wall.saved(0, 0), StoneWall.NONE);
        wall.plan();
        Check.due("least()", wall.least(), 12);
        Check.due("saved(0, 1), a kind that the plan does not use", wall.saved(0, 1), 0);
        wall.stones(0, 0, 8);
        Check.due("least() when the plan is gone", wall.least(), StoneWall.NONE);
    }

    /** One more than 60 is no number that stones() takes, but saved() asks for it; two kinds weigh differently. */
    private static void fullHeap() {
        StoneWall wall = new StoneWall();
        wall.kind(1, 1);
        wall.kind(3, 1);
        wall.heap(0, 0);
        wall.heap(-50, 0);
        wall.stones(0, 0, 60);
        wall.stones(1, 0, 60);
        wall.stones(0, 1, 1);
        wall.stones(1, 1, 60);
        wall.wall(0, 0, 24, 1, 1, 0);
        wall.plan();
        Check.due("least(), places 0 to 23", wall.least(), 276);
        Check.due("saved(0, 0), sixty are enough", wall.saved(0, 0), 0);
        wall.stones(0, 0, 0);
        wall.stones(1, 0, 0);
        Check.due("plan()", wall.plan(), 8);
        Check.due("least(), places 0, 3 .. 21, one of them from the near heap", wall.least(), 3 * (8 * 50 + 84 - 50));
        Check.due("saved(0, 1)", wall.saved(0, 1), 3 * 50);
        Check.due("saved(1, 1)", wall.saved(1, 1), 0);
    }
}
