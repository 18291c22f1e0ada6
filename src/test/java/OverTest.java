/** Promise 9: which stone lies over a place. */
public final class OverTest {
    public static void main(String[] args) {
        StoneWall wall = Check.withHeap(new int[] {2, 1, 3}, new int[] {1, 1, 2}, new int[] {4, 1, 1});
        wall.wall(0, 0, 6, 2, 1, 0);
        Check.due("over(0, 0) without a plan", wall.over(0, 0), StoneWall.NONE);
        Check.due("plan()", wall.plan(), 6);
        places(wall);
        wall.build();
        places(wall);
        Check.due("frost(50)", wall.frost(50), 4);
        places(wall);
        wall.take(0);
        Check.due("over(0, 0) after take", wall.over(0, 0), StoneWall.NONE);
        Check.end();
    }

    private static void places(StoneWall wall) {
        int[][] due = {{0, 0, 1, 1, 2, 2}, {3, 4, 4, 4, 4, 5}};
        for (int course = 0; course < 2; course++) {
            for (int place = 0; place < 6; place++) {
                Check.due("over(" + course + ", " + place + ")", wall.over(course, place), due[course][place]);
            }
        }
        int[][] none = {{0, -1}, {0, 6}, {1, 6}, {-1, 0}, {2, 0}, {6, 0}, {0, Integer.MAX_VALUE},
            {0, Integer.MIN_VALUE}, {Integer.MAX_VALUE, 0}, {Integer.MIN_VALUE, 0}};
        for (int[] n : none) {
            Check.due("over(" + n[0] + ", " + n[1] + ")", wall.over(n[0], n[1]), StoneWall.NONE);
        }
    }
}
