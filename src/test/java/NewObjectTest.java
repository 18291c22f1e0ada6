/** Promise 1: no kinds, no heaps, no wall. */
public final class NewObjectTest {
    public static void main(String[] args) {
        StoneWall wall = new StoneWall();
        for (int what = 0; what <= 7; what++) {
            Check.due("look(" + what + ")", wall.look(what), 0);
        }
        for (int where = 0; where <= 7; where++) {
            Check.due("count(" + where + ", 0)", wall.count(where, 0), StoneWall.NONE);
        }
        Check.due("stones(0, 0, 0)", wall.stones(0, 0, 0), false);
        Check.due("through(0, 0)", wall.through(0, 0), false);
        Check.due("plan()", wall.plan(), StoneWall.NONE);
        Check.due("build()", wall.build(), StoneWall.NONE);
        Check.due("frost(0)", wall.frost(0), StoneWall.NONE);
        Check.due("mend()", wall.mend(), StoneWall.NONE);
        Check.due("take(0)", wall.take(0), StoneWall.NONE);
        Check.due("least()", wall.least(), StoneWall.NONE);
        Check.due("saved(0, 0)", wall.saved(0, 0), StoneWall.NONE);
        Check.due("over(0, 0)", wall.over(0, 0), StoneWall.NONE);
        Check.due("stone(0, 0) throws", Check.thrown(wall, 0, 0), Check.INDEX);
        wall.heap(0, 0);
        Check.due("look(1) of another object", new StoneWall().look(1), 0);
        Check.end();
    }
}
