/** Promise 3: heaps are numbered from 0 on; wrong ones, a sixth one, and one while a wall is built are refused. */
public final class HeapTest {
    public static void main(String[] args) {
        StoneWall wall = new StoneWall();
        int[] wrong = {-101, 101, Integer.MIN_VALUE, Integer.MAX_VALUE};
        for (int w : wrong) {
            Check.due("heap(" + w + ", 0)", wall.heap(w, 0), StoneWall.NONE);
            Check.due("heap(0, " + w + ")", wall.heap(0, w), StoneWall.NONE);
        }
        Check.due("look(1)", wall.look(1), 0);
        Check.due("heap(-100, 100)", wall.heap(-100, 100), 0);
        Check.due("heap(100, -100)", wall.heap(100, -100), 1);
        wall.kind(2, 1);
        wall.stones(1, 0, 3);
        wall.wall(0, 0, 2, 1, 1, 0);
        Check.due("plan()", wall.plan(), 1);
        Check.due("heap(101, 0)", wall.heap(101, 0), StoneWall.NONE);
        Check.due("look(2) after a refused heap", wall.look(2), 1);
        Check.due("heap(0, 0)", wall.heap(0, 0), 2);
        Check.due("look(2) after a heap", wall.look(2), 0);
        Check.due("count(2, 0) of a new heap", wall.count(2, 0), 0);
        wall.plan();
        Check.due("build()", wall.build(), 400);
        Check.due("heap(0, 0) while built", wall.heap(0, 0), StoneWall.NONE);
        Check.due("take(0)", wall.take(0), 1);
        Check.due("heap(0, 0) after take", wall.heap(0, 0), 3);
        Check.due("heap(0, 0)", wall.heap(0, 0), 4);
        Check.due("heap(0, 0), the sixth", wall.heap(0, 0), StoneWall.NONE);
        Check.due("look(1)", wall.look(1), 5);
        Check.end();
    }
}
