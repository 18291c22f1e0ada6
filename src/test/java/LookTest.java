/** Promise 17: what is to be seen of the whole. */
public final class LookTest {
    public static void main(String[] args) {
        StoneWall wall = new StoneWall();
        looks(wall, 0, 0, 0, 0, 0, 0, 0, 0);
        wall.kind(2, 1);
        wall.kind(1, 1);
        wall.kind(4, 1);
        wall.heap(0, 0);
        wall.heap(1, 1);
        wall.stones(0, 0, 3);
        wall.stones(0, 1, 2);
        wall.stones(0, 2, 1);
        wall.wall(0, 0, 6, 2, 2, 0);
        looks(wall, 3, 2, 0, 0, 0, 0, 0, 0);
        wall.plan();
        looks(wall, 3, 2, 6, 0, 6, 12, 0, 0);
        wall.build();
        looks(wall, 3, 2, 6, 1, 6, 12, 0, 0);
        wall.frost(50);
        wall.frost(0);
        looks(wall, 3, 2, 6, 1, 6, 12, 4, 2);
        wall.take(1);
        looks(wall, 3, 2, 0, 0, 6, 0, 0, 0);
        wall.plan();
        wall.build();
        looks(wall, 3, 2, 6, 1, 6, 12, 0, 0);
        wall.take(0);
        wall.stones(0, 2, 0);
        Check.due("plan(), none", wall.plan(), 0);
        Check.due("look(4) of the latest plan, not of all", wall.look(4) > 6, true);
        Check.due("look(5), no plan", wall.look(5), 0);
        looksOfTheLatestPlan();
        Check.end();
    }

    /** The plan is gone with what is told anew, but it was the latest plan(): its looks are there still. */
    private static void looksOfTheLatestPlan() {
        StoneWall wall = Check.withHeap(new int[] {2, 1, 9});
        wall.wall(0, 0, 6, 1, 1, 0);
        Check.due("plan()", wall.plan(), 3);
        wall.kind(1, 1);
        Check.due("look(4) after kind", wall.look(4), 3);
        wall.heap(5, 5);
        Check.due("look(4) after heap", wall.look(4), 3);
        wall.stones(0, 0, 8);
        Check.due("look(4) after stones", wall.look(4), 3);
        wall.through(1, 1);
        Check.due("look(4) after through", wall.look(4), 3);
        wall.wall(0, 0, 4, 1, 1, 0);
        Check.due("look(4) after wall", wall.look(4), 3);
        wall.plan();
        wall.build();
        wall.frost(50);
        wall.mend();
        wall.plan();
        Check.due("look(4) of a wall that is built", wall.look(4), 2);
        wall.take(0);
        Check.due("look(4) after take", wall.look(4), 2);
    }

    private static void looks(StoneWall wall, int... due) {
        for (int what = 0; what < due.length; what++) {
            Check.due("look(" + what + ")", wall.look(what), due[what]);
        }
        int[] wrong = {-1, 8, Integer.MIN_VALUE, Integer.MAX_VALUE};
        for (int what : wrong) {
            Check.due("look(" + what + ")", wall.look(what), StoneWall.NONE);
        }
    }
}
