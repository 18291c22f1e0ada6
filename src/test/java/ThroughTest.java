/** Promise 6: which courses are through, with how many. */
public final class ThroughTest {
    public static void main(String[] args) {
        limits();
        asked();
        moreThanAsked();
        Check.end();
    }

    private static void limits() {
        StoneWall wall = Check.withHeap(new int[] {2, 2, 9});
        Check.due("through(0, 0), no wall", wall.through(0, 0), false);
        wall.wall(0, 0, 2, 3, 2, 0);
        Check.due("plan()", wall.plan(), 3);
        int[][] wrong = {{8, 1}, {-1, 1}, {1, -1}, {1, 4}, {Integer.MIN_VALUE, 0}, {Integer.MAX_VALUE, 0},
            {0, Integer.MAX_VALUE}};
        for (int[] w : wrong) {
            Check.due("through(" + w[0] + ", " + w[1] + ")", wall.through(w[0], w[1]), false);
        }
        Check.due("look(2) after refused throughs", wall.look(2), 3);
        Check.due("through(0, 0)", wall.through(0, 0), true);
        Check.due("look(2) after through", wall.look(2), 0);
        Check.due("through(7, 3)", wall.through(7, 3), true);
        Check.due("plan(), three asked of one stone", wall.plan(), 0);
        Check.due("through(7, 1)", wall.through(7, 1), true);
        Check.due("plan()", wall.plan(), 3);
        wall.build();
        Check.due("through(0, 0) while built", wall.through(0, 0), false);
        wall.take(0);
        wall.wall(0, 0, 2, 6, 2, 0);
        Check.due("through(63, 0), six courses", wall.through(63, 0), true);
        Check.due("through(64, 0), six courses", wall.through(64, 0), false);
    }

    private static void asked() {
        StoneWall wall = Check.withHeap(new int[] {1, 1, 9}, new int[] {1, 2, 9}, new int[] {1, 3, 9});
        wall.wall(0, 0, 3, 1, 2, 0);
        Check.due("plan()", wall.plan(), 3);
        Check.kinds(wall, "000");
        wall.through(1, 1);
        wall.plan();
        Check.kinds(wall, "001");
        wall.through(1, 2);
        wall.plan();
        Check.kinds(wall, "011");
        wall.through(1, 3);
        wall.plan();
        Check.kinds(wall, "111");
        wall.through(0, 3);
        wall.plan();
        Check.kinds(wall, "000");
        wall.stones(0, 1, 1);
        wall.through(1, 3);
        wall.plan();
        Check.kinds(wall, "122");
    }

    /** At least so many: the first whole wall has three where one or two are asked, and no look more for that. */
    private static void moreThanAsked() {
        for (int asked = 1; asked <= 2; asked++) {
            StoneWall wall = Check.withHeap(new int[] {1, 2, 9}, new int[] {1, 1, 9});
            wall.wall(0, 0, 3, 1, 2, 0);
            wall.through(1, asked);
            Check.due("plan(), through(1, " + asked + ")", wall.plan(), 3);
            Check.kinds(wall, "000");
            Check.due("look(4), through(1, " + asked + ")", wall.look(4), 3);
        }
    }
}
