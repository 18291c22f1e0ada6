import java.lang.management.ManagementFactory;

/** All calls of a run live in one room: what is made is made in the constructor, and used again by the calls. */
public final class RoomTest {
    private static final long BYTES_OF_AN_OBJECT = 12000;
    private static final long BYTES_OF_ALL_CALLS = 20000;

    public static void main(String[] args) {
        com.sun.management.ThreadMXBean meter =
            (com.sun.management.ThreadMXBean) ManagementFactory.getThreadMXBean();
        long id = Thread.currentThread().getId();
        work(new StoneWall());
        long start = meter.getThreadAllocatedBytes(id);
        StoneWall wall = new StoneWall();
        long made = meter.getThreadAllocatedBytes(id);
        int answered = work(wall);
        long end = meter.getThreadAllocatedBytes(id);
        Check.due("calls", answered, 300);
        if (made - start > BYTES_OF_AN_OBJECT) {
            Check.fault("a new object takes " + (made - start) + " bytes");
        }
        if (end - made > BYTES_OF_ALL_CALLS) {
            Check.fault("300 calls take " + (end - made) + " bytes");
        }
        Check.end();
    }

    private static int work(StoneWall wall) {
        wall.kind(1, 1);
        wall.kind(3, 2);
        wall.kind(2, 1);
        for (int h = 0; h < 5; h++) {
            wall.heap(20 * h, h);
            wall.stones(h, 0, 12);
            wall.stones(h, 1, 12);
            wall.stones(h, 2, 12);
        }
        wall.wall(0, 0, 24, 6, 2, 0);
        int calls = 0;
        for (int i = 0; i < 30; i++) {
            wall.plan();
            wall.least();
            wall.saved(i % 5, i % 3);
            wall.build();
            wall.frost(i);
            wall.over(i % 6, 3);
            wall.count(i % 8, 0);
            wall.look(i % 8);
            wall.mend();
            wall.take(i % 5);
            calls += 10;
        }
        return calls;
    }
}
