/** Promise 17: what is to be seen of the whole. */
public final class LookTest {
    public static void main(String[] args) {
        StoneWall wall = new StoneWall();
        looks(wall, 0, 0, 0, 0, 0, 0, 0, 0);
        wall.kind(2, 1);
        wall.kind(1, 1);
        wall.kind(4, 1);
        wall.heap(0, 0);
        wall.heap(1, 1);
        wall.stones(0, 0, 3);
        wall.stones(0, 1, 2);
        wall.stones(0, 2, 1);
        wall.wall(0, 0, 6, 2, 2, 0);
        looks(wall, 3, 2, 0, 0, 0, 0, 0, 0);
        wall.plan();
        looks(wall, 3, 2, 6, 0, 6, 12, 0, 0);
        wall.build();
        looks(wall, 3, 2, 6, 1, 6, 12, 0, 0);
        wall.frost(50);
        wall.frost(0);
        looks(wall, 3, 2, 6, 1, 6, 12, 4, 2);
        wall.take(1);
        looks(wall, 3, 2, 0, 0, 6, 0, 0, 0);
        wall.plan();
        wall.build();
        looks(wall, 3, 2, 6, 1, 6, 12, 0, 0);
        wall.take(0);
        wall.stones(0, 2, 0);
        Check.due("plan(), none", wall.plan(), 0);
        Check.due("look(4) of the latest plan, not of all", wall.look(4) > 6, true);
        Check.due("look(5), no plan", wall.look(5), 0);
        Check.end();
    }

    private static void looks(StoneWall wall, int... due) {
        for (int what = 0; what < due.length; what++) {
            Check.due("look(" + what + ")", wall.look(what), due[what]);
        }
        int[] wrong = {-1, 8, Integer.MIN_VALUE, Integer.MAX_VALUE};
        for (int what : wrong) {
            Check.due("look(" + what + ")", wall.look(what), StoneWall.NONE);
        }
    }
}
