/** Promise 15: all stones go to one heap, if it holds them; no plan then. */
public final class TakeTest {
    public static void main(String[] args) {
        StoneWall wall = Check.withHeap(new int[] {2, 1, 3}, new int[] {1, 1, 2}, new int[] {4, 1, 1});
        wall.heap(9, 9);
        wall.heap(8, 8);
        wall.stones(1, 0, 57);
        wall.stones(2, 0, 58);
        wall.wall(0, 0, 6, 2, 1, 0);
        Check.due("take(0), no wall", wall.take(0), StoneWall.NONE);
        Check.due("plan()", wall.plan() > 0, true);
        Check.due("take(0), only a plan", wall.take(0), StoneWall.NONE);
        wall.stones(1, 0, 0);
        wall.stones(2, 0, 0);
        Check.due("plan()", wall.plan(), 6);
        wall.build();
        wall.frost(50);
        int[] wrong = {-1, 3, 5, Integer.MIN_VALUE, Integer.MAX_VALUE};
        for (int heap : wrong) {
            Check.due("take(" + heap + ")", wall.take(heap), StoneWall.NONE);
        }
        Check.due("look(6), a refused take changes nothing", wall.look(6), 4);
        Check.due("take(1), those at the foot too", wall.take(1), 6);
        int[][] due = {{0, 0, 0}, {3, 2, 1}, {0, 0, 0}};
        for (int heap = 0; heap < 3; heap++) {
            for (int kind = 0; kind < 3; kind++) {
                Check.due("count(" + heap + ", " + kind + ")", wall.count(heap, kind), due[heap][kind]);
            }
        }
        for (int what = 2; what <= 7; what++) {
            Check.due("look(" + what + ")", wall.look(what), what == 4 ? 6 : 0);
        }
        Check.due("take(1) again", wall.take(1), StoneWall.NONE);
        fullHeap();
        theWallIsToBeSoStill();
        Check.end();
    }

    /** Three stones, built from heap 0, which lies nearest; heap 1 can take two more, heap 2 three. */
    private static void fullHeap() {
        StoneWall wall = Check.withHeap(new int[] {2, 1, 3}, new int[] {1, 1, 0});
        wall.heap(50, 50);
        wall.heap(60, 60);
        wall.stones(1, 0, 58);
        wall.stones(2, 0, 57);
        wall.stones(2, 1, 60);
        wall.wall(0, 0, 6, 1, 1, 0);
        Check.due("plan()", wall.plan(), 3);
        wall.build();
        Check.due("take(1), 61 of a kind", wall.take(1), StoneWall.NONE);
        Check.due("count(1, 0)", wall.count(1, 0), 58);
        Check.due("look(3)", wall.look(3), 1);
        Check.due("take(2), 60 of a kind", wall.take(2), 3);
        Check.due("count(2, 0)", wall.count(2, 0), 60);
        Check.due("count(2, 1)", wall.count(2, 1), 60);
        Check.due("count(7, 0)", wall.count(7, 0), 118);
    }

    /** What was told of the wall, its through courses with it, is there still: it can be planned anew at once. */
    private static void theWallIsToBeSoStill() {
        StoneWall wall = Check.withHeap(new int[] {1, 1, 9}, new int[] {1, 2, 9});
        wall.wall(3, 4, 3, 1, 2, 0);
        wall.through(1, 2);
        for (int round = 0; round < 2; round++) {
            Check.due("plan()", wall.plan(), 3);
            Check.kinds(wall, "011");
            Check.due("build()", wall.build(), 1 * 7 + 2 * 8 + 2 * 9);
            Check.due("take(0)", wall.take(0), 3);
        }
    }
}
