/** Promise 14: all that lie at the foot are laid where they were, with whole hold; the others stay as they are. */
public final class MendTest {
    public static void main(String[] args) {
        StoneWall wall = Check.withHeap(new int[] {2, 2, 3});
        Check.due("mend(), no wall", wall.mend(), StoneWall.NONE);
        wall.wall(0, 0, 6, 1, 2, 0);
        wall.plan();
        Check.due("mend(), only a plan", wall.mend(), StoneWall.NONE);
        wall.build();
        Check.due("mend(), nothing slipped", wall.mend(), 0);
        Check.due("frost(50)", wall.frost(50), 2);
        Check.due("mend()", wall.mend(), 2);
        int[] holds = {99, 49, 99};
        for (int i = 0; i < 3; i++) {
            Check.stone(wall, i, 5, holds[i]);
            Check.stone(wall, i, 6, 1);
            Check.stone(wall, i, 2, 2 * i);
            Check.stone(wall, i, 7, 0);
        }
        Check.due("look(6)", wall.look(6), 0);
        Check.due("look(7), frosts are not forgotten", wall.look(7), 1);
        Check.due("count(5, 0)", wall.count(5, 0), 3);
        Check.due("mend() again", wall.mend(), 0);
        wall.take(0);
        Check.due("mend() after take", wall.mend(), StoneWall.NONE);
        theUnborneToo();
        Check.end();
    }

    /** All that lie at the foot: those that had no hold, and those that were not borne any more. */
    private static void theUnborneToo() {
        StoneWall wall = Check.withHeap(new int[] {2, 1, 6}, new int[] {6, 1, 1});
        wall.wall(0, 0, 6, 3, 1, 0);
        wall.plan();
        wall.build();
        Check.due("frost(33)", wall.frost(33), 4);
        Check.due("mend(), one without hold and three unborne", wall.mend(), 4);
        int[] holds = {33, 66, 33, 99, 99, 99, 99};
        for (int i = 0; i < holds.length; i++) {
            Check.stone(wall, i, 5, holds[i]);
            Check.stone(wall, i, 6, 1);
        }
    }
}
