/** Promise 13: holds fall, stones without hold slip, and those that are borne too little after them. */
public final class FrostTest {
    public static void main(String[] args) {
        refused();
        slipOfTheUnborne();
        halfIsEnough();
        slipsGoUp();
        borneByTheCourseBelowAlone();
        Check.end();
    }

    private static void refused() {
        StoneWall wall = Check.withHeap(new int[] {2, 1, 9});
        Check.due("frost(1), no wall", wall.frost(1), StoneWall.NONE);
        wall.wall(0, 0, 2, 1, 1, 0);
        wall.plan();
        Check.due("frost(1), only a plan", wall.frost(1), StoneWall.NONE);
        wall.build();
        int[] wrong = {-1, 51, Integer.MIN_VALUE, Integer.MAX_VALUE};
        for (int n : wrong) {
            Check.due("frost(" + n + ")", wall.frost(n), StoneWall.NONE);
        }
        Check.due("look(7) after refused frosts", wall.look(7), 0);
        Check.stone(wall, 0, 5, 99);
        Check.due("frost(0)", wall.frost(0), 0);
        Check.stone(wall, 0, 5, 99);
        Check.due("look(7)", wall.look(7), 1);
        Check.due("frost(32)", wall.frost(32), 0);
        Check.stone(wall, 0, 5, 3);
        Check.due("frost(1)", wall.frost(1), 1);
        Check.stone(wall, 0, 5, 0);
        Check.due("frost(50), nothing stands", wall.frost(50), 0);
        Check.due("look(7)", wall.look(7), 4);
    }

    /** Two stones of length 2 and one of length 4 over both. */
    private static void slipOfTheUnborne() {
        StoneWall wall = Check.withHeap(new int[] {2, 1, 2}, new int[] {4, 1, 1});
        wall.wall(0, 0, 4, 2, 1, 0);
        Check.due("plan()", wall.plan(), 3);
        wall.build();
        Check.due("frost(33), two free ends", wall.frost(33), 1);
        holds(wall, 33, 33, 0);
        Check.due("mend()", wall.mend(), 1);
        Check.due("frost(16)", wall.frost(16), 0);
        holds(wall, 1, 1, 51);
        Check.due("frost(1)", wall.frost(1), 3);
        holds(wall, 0, 0, 48);
        Check.stone(wall, 2, 6, 0);
        Check.due("frost(50), what lies at the foot is not touched", wall.frost(50), 0);
        holds(wall, 0, 0, 48);
    }

    /** Three stones of length 2, over them 1, 4 and 1: the long one is borne by the middle one at its half. */
    private static void halfIsEnough() {
        StoneWall wall = Check.withHeap(new int[] {2, 1, 3}, new int[] {1, 1, 2}, new int[] {4, 1, 1});
        wall.wall(0, 0, 6, 2, 1, 0);
        Check.due("plan()", wall.plan(), 6);
        wall.build();
        Check.due("frost(50)", wall.frost(50), 4);
        holds(wall, 0, 49, 0, 0, 49, 0);
        Check.stone(wall, 4, 6, 1);
        Check.due("frost(10), ends are free where stones slipped", wall.frost(10), 0);
        holds(wall, 0, 19, 0, 0, 19, 0);
        Check.due("mend()", wall.mend(), 4);
        Check.due("frost(19)", wall.frost(19), 2);
        holds(wall, 61, 0, 61, 61, 0, 61);
    }

    /** Stones of length 2 one over the other: when the lowest has no hold, all above it slip in the same frost. */
    private static void slipsGoUp() {
        StoneWall wall = Check.withHeap(new int[] {2, 1, 60});
        wall.wall(0, 0, 2, 4, 1, 0);
        Check.due("plan()", wall.plan(), 4);
        wall.build();
        wall.frost(30);
        holds(wall, 9, 9, 9, 9);
        Check.due("frost(3)", wall.frost(3), 4);
        Check.due("look(6)", wall.look(6), 4);
    }

    /** 2, 2, 2, over them 6, over that 2, 2, 2: when the long one slips, the lowest course bears none of the highest. */
    private static void borneByTheCourseBelowAlone() {
        StoneWall wall = Check.withHeap(new int[] {2, 1, 6}, new int[] {6, 1, 1});
        wall.wall(0, 0, 6, 3, 1, 0);
        Check.due("plan()", wall.plan(), 7);
        wall.build();
        Check.due("frost(33)", wall.frost(33), 4);
        holds(wall, 33, 66, 33, 0, 33, 66, 33);
        for (int i = 0; i < 7; i++) {
            Check.stone(wall, i, 6, i < 3 ? 1 : 0);
        }
    }

    private static void holds(StoneWall wall, int... due) {
        for (int i = 0; i < due.length; i++) {
            Check.stone(wall, i, 5, due[i]);
        }
    }
}
