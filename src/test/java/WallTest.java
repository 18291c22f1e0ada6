/** Promise 5: the wall is to be so; what can't be changes nothing; not while one is built. */
public final class WallTest {
    public static void main(String[] args) {
        limits();
        planAndThrough();
        batter();
        Check.end();
    }

    private static boolean tell(StoneWall wall, int[] w) {
        return wall.wall(w[0], w[1], w[2], w[3], w[4], w[5]);
    }

    private static void limits() {
        StoneWall wall = new StoneWall();
        int[] low = {-100, -100, 2, 1, 1, 0};
        int[] high = {100, 100, 24, 6, 4, 1};
        for (int i = 0; i < 6; i++) {
            int[] below = low.clone();
            below[i]--;
            int[] above = high.clone();
            above[i]++;
            int[] farBelow = low.clone();
            farBelow[i] = Integer.MIN_VALUE;
            int[] farAbove = high.clone();
            farAbove[i] = Integer.MAX_VALUE;
            Check.due("wall, argument " + i + " too low", tell(wall, below), false);
            Check.due("wall, argument " + i + " too high", tell(wall, above), false);
            Check.due("wall, argument " + i + " far too low", tell(wall, farBelow), false);
            Check.due("wall, argument " + i + " far too high", tell(wall, farAbove), false);
        }
        Check.due("plan() after refused walls", wall.plan(), StoneWall.NONE);
        Check.due("wall, all lowest", tell(wall, low), true);
        Check.due("wall, all highest", tell(wall, high), true);
        Check.due("plan()", wall.plan(), 0);
    }

    private static void planAndThrough() {
        StoneWall wall = Check.withHeap(new int[] {2, 1, 9});
        wall.wall(0, 0, 2, 1, 2, 0);
        Check.due("through(1, 1)", wall.through(1, 1), true);
        Check.due("plan(), no through-stone", wall.plan(), 0);
        Check.due("wall() of another through", wall.wall(0, 0, 4, 1, 2, 0), true);
        Check.due("plan(), a new wall has no through courses", wall.plan(), 2);
        Check.due("wall(0, 0, 1, 1, 2, 0)", wall.wall(0, 0, 1, 1, 2, 0), false);
        Check.due("look(2) after a refused wall", wall.look(2), 2);
        Check.due("wall(0, 0, 4, 1, 2, 0), the same", wall.wall(0, 0, 4, 1, 2, 0), true);
        Check.due("look(2) after a wall", wall.look(2), 0);
        wall.plan();
        wall.build();
        Check.due("wall while built", wall.wall(0, 0, 2, 1, 2, 0), false);
        Check.due("look(2)", wall.look(2), 2);
        wall.take(0);
        Check.due("plan(), the wall is told still", wall.plan(), 2);
    }

    private static void batter() {
        StoneWall wall = Check.withHeap(new int[] {2, 1, 9});
        wall.wall(0, 0, 2, 6, 4, 1);
        Check.due("plan()", wall.plan(), 6);
        int[] hearting = {6, 4, 2, 0, 0, 0};
        for (int i = 0; i < 6; i++) {
            Check.stone(wall, i, 3, hearting[i]);
            Check.stone(wall, i, 4, i < 3 ? 0 : 1);
        }
        wall.wall(0, 0, 2, 6, 4, 0);
        wall.plan();
        Check.due("look(5) without batter", wall.look(5), 36);
    }
}
