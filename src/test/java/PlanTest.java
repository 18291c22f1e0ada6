/** Promise 7: the first whole wall, found by tries that are counted. */
public final class PlanTest {
    public static void main(String[] args) {
        jointOverJoint();
        depthOfAStone();
        amounts();
        fullest();
        refused();
        Check.end();
    }

    private static void jointOverJoint() {
        StoneWall wall = Check.withHeap(new int[] {1, 1, 60}, new int[] {2, 1, 60}, new int[] {3, 1, 60});
        wall.wall(0, 0, 4, 3, 1, 0);
        // Over 0000 nothing can lie; 001 has joints at 1 and 2, 20 over it at 3, 001 over that at 1 and 2 again.
        Check.due("plan()", wall.plan(), 8);
        Check.kinds(wall, "00120001");
        Check.due("look(4)", wall.look(4), 10);
    }

    private static void depthOfAStone() {
        StoneWall wall = Check.withHeap(new int[] {2, 4, 9}, new int[] {2, 3, 9}, new int[] {2, 1, 9});
        wall.wall(0, 0, 2, 3, 2, 1);
        Check.due("plan(), one more than the width is the most", wall.plan(), 3);
        Check.kinds(wall, "122");
        Check.due("look(4), what can't lie is no look", wall.look(4), 3);
    }

    private static void amounts() {
        StoneWall wall = Check.withHeap(new int[] {2, 1, 1}, new int[] {2, 1, 0});
        wall.heap(50, 50);
        wall.wall(0, 0, 6, 1, 1, 0);
        Check.due("plan(), too few", wall.plan(), 0);
        Check.due("look(4)", wall.look(4), 1);
        wall.stones(1, 0, 1);
        wall.stones(1, 1, 1);
        Check.due("plan(), from both heaps", wall.plan(), 3);
        Check.kinds(wall, "001");
        Check.due("count(0, 0), a plan takes nothing", wall.count(0, 0), 1);
        Check.due("plan() again", wall.plan(), 3);
        wall.stones(1, 1, 0);
        wall.plan();
        Check.due("look(2) when none was found", wall.look(2), 0);
        Check.due("build() when none was found", wall.build(), StoneWall.NONE);
    }

    private static void fullest() {
        StoneWall wall = Check.withHeap(new int[] {1, 1, 60}, new int[] {6, 1, 60}, new int[] {5, 1, 60});
        wall.wall(0, 0, 24, 6, 1, 0);
        Check.due("plan() of the longest and highest wall", wall.plan(), 72);
        Check.kinds(wall, "000001000010001000010002".repeat(3));
        StoneWall low = Check.withHeap(new int[] {1, 1, 60});
        low.wall(0, 0, 24, 1, 1, 0);
        Check.due("plan() of the most stones in a course", low.plan(), 24);
    }

    private static void refused() {
        StoneWall wall = Check.withHeap(new int[] {2, 1, 9});
        Check.due("plan(), no wall told", wall.plan(), StoneWall.NONE);
        wall.wall(0, 0, 4, 1, 1, 0);
        Check.due("plan()", wall.plan(), 2);
        wall.build();
        Check.due("plan() while built", wall.plan(), StoneWall.NONE);
        Check.due("look(2)", wall.look(2), 2);
        Check.due("look(4) after a refused plan", wall.look(4), 2);
        wall.take(0);
        Check.due("plan() after take", wall.plan(), 2);
        Check.due("plan(), no kinds", noKinds().plan(), 0);
    }

    private static StoneWall noKinds() {
        StoneWall wall = new StoneWall();
        wall.wall(0, 0, 2, 1, 1, 0);
        return wall;
    }
}
