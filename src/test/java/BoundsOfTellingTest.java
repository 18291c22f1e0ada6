/** Promises 1 to 6, and the bounds of Term 1: one test for each sentence that names a boundary. */
public final class BoundsOfTellingTest {
    private static final int NONE = StoneWall.NONE;

    public static void main(String[] args) {
        newObject();
        kinds();
        heaps();
        stones();
        walls();
        throughs();
        Check.end();
    }

    private static void newObject() {
        noKinds();
        noHeaps();
        noWall();
    }

    private static void kinds() {
        lengthOfAKind();
        depthOfAKind();
        eightKinds();
        refusedKindsAreNotCounted();
        kindWhileBuilt();
        noPlanAfterAKind();
        newKindLiesInNoHeap();
    }

    private static void heaps() {
        xOfAHeap();
        yOfAHeap();
        fiveHeaps();
        refusedHeapsAreNotCounted();
        heapWhileBuilt();
        noPlanAfterAHeap();
        newHeapIsEmpty();
        farthestHeap();
    }

    private static void stones() {
        numberOfStones();
        heapOfStones();
        kindOfStones();
        fifthHeapAndEighthKind();
        everyHeapFull();
        stonesAreSetNotAdded();
        stonesWhileBuilt();
        noPlanAfterStones();
    }

    private static void walls() {
        eachNumberOfAWall();
        refusedWallLeavesNoneTold();
        refusedWallLeavesTheOldOne();
        refusedWallLeavesThePlan();
        wallWhileBuilt();
        noPlanAfterAWall();
        widthIsNotBelowOne();
        widthWithoutBatter();
        anotherWallHasNoThroughCourses();
    }

    private static void throughs() {
        throughWithoutAWall();
        bitsOfEachNumberOfCourses();
        bitsOfTheLatestWall();
        numberOfThroughs();
        refusedThroughLeavesTheOldOne();
        throughWhileBuilt();
        noPlanAfterAThrough();
    }

    /** One kind of length 2, sixty of them in a heap at 0, 0, and a wall of two of them. */
    private static StoneWall two() {
        StoneWall wall = Check.withHeap(new int[] {2, 1, 60});
        wall.wall(0, 0, 4, 1, 1, 0);
        return wall;
    }

    private static StoneWall twoPlanned() {
        StoneWall wall = two();
        Check.due("plan()", wall.plan(), 2);
        return wall;
    }

    private static StoneWall twoBuilt() {
        StoneWall wall = twoPlanned();
        Check.due("build()", wall.build(), 4);
        return wall;
    }

    private static void noPlan(StoneWall wall) {
        Check.due("look(2)", wall.look(2), 0);
        Check.due("look(5)", wall.look(5), 0);
        Check.due("least()", wall.least(), NONE);
        Check.due("over(0, 0)", wall.over(0, 0), NONE);
        Check.due("stone(0, 0) throws", Check.thrown(wall, 0, 0), Check.INDEX);
        Check.due("build()", wall.build(), NONE);
    }

    private static void noKinds() {
        Check.sentence("Promise 1: no KINDS");
        StoneWall wall = new StoneWall();
        Check.due("look(0)", wall.look(0), 0);
        Check.due("heap(0, 0)", wall.heap(0, 0), 0);
        Check.due("count(0, 0)", wall.count(0, 0), NONE);
        Check.due("count(7, 0)", wall.count(7, 0), NONE);
        Check.due("stones(0, 0, 0)", wall.stones(0, 0, 0), false);
        Check.due("kind(1, 1), the first", wall.kind(1, 1), 0);
    }

    private static void noHeaps() {
        Check.sentence("Promise 1: no HEAPS");
        StoneWall wall = new StoneWall();
        Check.due("look(1)", wall.look(1), 0);
        Check.due("kind(1, 1)", wall.kind(1, 1), 0);
        Check.due("count(0, 0)", wall.count(0, 0), NONE);
        Check.due("count(7, 0)", wall.count(7, 0), 0);
        Check.due("stones(0, 0, 0)", wall.stones(0, 0, 0), false);
        Check.due("heap(1, 1), the first", wall.heap(1, 1), 0);
    }

    private static void noWall() {
        Check.sentence("Promise 1: no WALL");
        StoneWall wall = Check.withHeap(new int[] {1, 1, 60});
        Check.due("plan()", wall.plan(), NONE);
        Check.due("through(0, 0)", wall.through(0, 0), false);
        Check.due("look(3)", wall.look(3), 0);
        Check.due("take(0)", wall.take(0), NONE);
        noPlan(wall);
    }

    private static void lengthOfAKind() {
        Check.sentence("Promise 2: it can't be; Term 1: LENGTH 1 .. 6");
        Check.range("kind(v, 1)", 1, 6, v -> new StoneWall().kind(v, 1), 0, NONE);
        for (int length = 1; length <= 6; length++) {
            StoneWall wall = Check.withHeap(new int[] {length, 1, 60});
            wall.wall(0, 0, 12, 1, 1, 0);
            Check.due("plan(), stones of length " + length, wall.plan(), 12 % length == 0 ? 12 / length : 0);
        }
    }

    private static void depthOfAKind() {
        Check.sentence("Promise 2: it can't be; Term 1: DEPTH 1 .. 4");
        Check.range("kind(1, v)", 1, 4, v -> new StoneWall().kind(1, v), 0, NONE);
        for (int depth = 1; depth <= 4; depth++) {
            StoneWall wall = Check.withHeap(new int[] {2, depth, 60});
            wall.wall(0, 0, 2, 1, 4, 0);
            Check.due("plan()", wall.plan(), 1);
            Check.due("look(5), stones of depth " + depth, wall.look(5), 2 * (4 - depth));
        }
    }

    private static void eightKinds() {
        Check.sentence("Promise 2: there are 8; Term 1: at most 8, numbered from 0 on");
        StoneWall wall = new StoneWall();
        for (int k = 0; k < 8; k++) {
            Check.due("look(0)", wall.look(0), k);
            Check.due("kind(1, 1)", wall.kind(1, 1), k);
        }
        Check.due("kind(1, 1), the ninth", wall.kind(1, 1), NONE);
        Check.due("kind(1, 1), the ninth again", wall.kind(1, 1), NONE);
        Check.due("look(0)", wall.look(0), 8);
    }

    private static void refusedKindsAreNotCounted() {
        Check.sentence("Promise 2: it can't be (and has no number)");
        StoneWall wall = new StoneWall();
        for (int i = 0; i < 9; i++) {
            Check.due("kind(7, 1)", wall.kind(7, 1), NONE);
        }
        Check.due("look(0)", wall.look(0), 0);
        Check.due("kind(6, 1)", wall.kind(6, 1), 0);
    }

    private static void kindWhileBuilt() {
        Check.sentence("Promise 2: NONE: a WALL is built");
        StoneWall wall = twoBuilt();
        Check.due("kind(1, 1)", wall.kind(1, 1), NONE);
        Check.due("frost(50)", wall.frost(50), 2);
        Check.due("kind(1, 1), all at the foot", wall.kind(1, 1), NONE);
        Check.due("look(0)", wall.look(0), 1);
        Check.due("take(0)", wall.take(0), 2);
        Check.due("kind(1, 1), taken down", wall.kind(1, 1), 1);
    }

    private static void noPlanAfterAKind() {
        Check.sentence("Promise 2: there is no PLAN then");
        StoneWall wall = twoPlanned();
        Check.due("kind(1, 1)", wall.kind(1, 1), 1);
        noPlan(wall);
        Check.due("plan()", wall.plan(), 2);
    }

    private static void newKindLiesInNoHeap() {
        Check.sentence("Promise 2: a KIND (none of it lies anywhere)");
        StoneWall wall = twoPlanned();
        wall.kind(1, 1);
        for (int where = 0; where <= 7; where++) {
            Check.due("count(" + where + ", 1)", wall.count(where, 1), where >= 1 && where <= 4 ? NONE : 0);
        }
    }

    private static void xOfAHeap() {
        Check.sentence("Promise 3: it can't be; Term 1: x (-100 .. 100)");
        Check.range("heap(v, 0)", -100, 100, v -> new StoneWall().heap(v, 0), 0, NONE);
    }

    private static void yOfAHeap() {
        Check.sentence("Promise 3: it can't be; Term 1: y (-100 .. 100)");
        Check.range("heap(0, v)", -100, 100, v -> new StoneWall().heap(0, v), 0, NONE);
    }

    private static void fiveHeaps() {
        Check.sentence("Promise 3: there are 5; Term 1: HEAPS, at most 5");
        StoneWall wall = new StoneWall();
        for (int h = 0; h < 5; h++) {
            Check.due("look(1)", wall.look(1), h);
            Check.due("heap(0, 0), all at one place", wall.heap(0, 0), h);
        }
        Check.due("heap(0, 0), the sixth", wall.heap(0, 0), NONE);
        Check.due("heap(1, 1), the sixth again", wall.heap(1, 1), NONE);
        Check.due("look(1)", wall.look(1), 5);
    }

    private static void refusedHeapsAreNotCounted() {
        Check.sentence("Promise 3: it can't be (and has no number)");
        StoneWall wall = new StoneWall();
        for (int i = 0; i < 6; i++) {
            Check.due("heap(101, 0)", wall.heap(101, 0), NONE);
        }
        Check.due("look(1)", wall.look(1), 0);
        Check.due("heap(100, 0)", wall.heap(100, 0), 0);
    }

    private static void heapWhileBuilt() {
        Check.sentence("Promise 3: NONE: a WALL is built");
        StoneWall wall = twoBuilt();
        Check.due("heap(1, 1)", wall.heap(1, 1), NONE);
        Check.due("frost(50)", wall.frost(50), 2);
        Check.due("heap(1, 1), all at the foot", wall.heap(1, 1), NONE);
        Check.due("look(1)", wall.look(1), 1);
        Check.due("take(0)", wall.take(0), 2);
        Check.due("heap(1, 1), taken down", wall.heap(1, 1), 1);
    }

    private static void noPlanAfterAHeap() {
        Check.sentence("Promise 3: there is no PLAN then");
        StoneWall wall = twoPlanned();
        Check.due("heap(1, 1)", wall.heap(1, 1), 1);
        noPlan(wall);
        Check.due("plan()", wall.plan(), 2);
    }

    private static void newHeapIsEmpty() {
        Check.sentence("Promise 3: a HEAP (nothing lies in it)");
        StoneWall wall = two();
        Check.due("heap(1, 1)", wall.heap(1, 1), 1);
        Check.due("count(1, 0)", wall.count(1, 0), 0);
        Check.due("count(7, 0)", wall.count(7, 0), 60);
    }

    private static void farthestHeap() {
        Check.sentence("Term 1: x, y (-100 .. 100), at both ends");
        int[] ends = {-100, 100};
        for (int end : ends) {
            StoneWall wall = new StoneWall();
            wall.kind(6, 4);
            wall.heap(end, end);
            wall.stones(0, 0, 4);
            Check.due("wall()", wall.wall(-end, -end, 24, 1, 4, 0), true);
            Check.due("plan()", wall.plan(), 4);
            // Places 0, 6, 12, 18: 36 in all further along x, or nearer.
            long toil = 24 * (4 * 400 + (end < 0 ? 36 : -36));
            Check.due("least()", wall.least(), toil);
            Check.due("build()", wall.build(), toil);
        }
    }

    private static void numberOfStones() {
        Check.sentence("Promise 4: false if it can't be; Term 1: stones of each KIND (0 .. 60)");
        Check.range("stones(0, 0, v)", 0, 60, v -> two().stones(0, 0, v) ? 1 : 0, 1, 0);
        StoneWall wall = two();
        for (int n : new int[] {0, 60, 1, 59}) {
            wall.stones(0, 0, n);
            Check.due("count(0, 0)", wall.count(0, 0), n);
        }
        wall.stones(0, 0, 61);
        wall.stones(0, 0, -1);
        Check.due("count(0, 0) after refused ones", wall.count(0, 0), 59);
    }

    private static void heapOfStones() {
        Check.sentence("Promise 4: false if it can't be: no such HEAP");
        Check.range("stones(v, 0, 1), one heap", 0, 0, v -> two().stones(v, 0, 1) ? 1 : 0, 1, 0);
        Check.range("stones(v, 0, 1), three heaps", 0, 2, v -> {
            StoneWall wall = two();
            wall.heap(1, 1);
            wall.heap(2, 2);
            return wall.stones(v, 0, 1) ? 1 : 0;
        }, 1, 0);
    }

    private static void kindOfStones() {
        Check.sentence("Promise 4: false if it can't be: no such KIND");
        Check.range("stones(0, v, 1), one kind", 0, 0, v -> two().stones(0, v, 1) ? 1 : 0, 1, 0);
        Check.range("stones(0, v, 1), three kinds", 0, 2, v -> {
            StoneWall wall = two();
            wall.kind(1, 1);
            wall.kind(1, 2);
            return wall.stones(0, v, 1) ? 1 : 0;
        }, 1, 0);
    }

    /** Eight kinds and five heaps. */
    private static StoneWall fullObject() {
        StoneWall wall = new StoneWall();
        for (int k = 0; k < 8; k++) {
            wall.kind(1, 1);
        }
        for (int h = 0; h < 5; h++) {
            wall.heap(0, h);
        }
        return wall;
    }

    private static void fifthHeapAndEighthKind() {
        Check.sentence("Promise 4: a HEAP has so many of a KIND, the last HEAP and KIND that there can be");
        Check.range("stones(v, 7, 1)", 0, 4, v -> fullObject().stones(v, 7, 1) ? 1 : 0, 1, 0);
        Check.range("stones(4, v, 1)", 0, 7, v -> fullObject().stones(4, v, 1) ? 1 : 0, 1, 0);
    }

    private static void everyHeapFull() {
        Check.sentence("Promise 4: a HEAP has so many of a KIND, all of them full");
        StoneWall wall = fullObject();
        for (int h = 0; h < 5; h++) {
            for (int k = 0; k < 8; k++) {
                Check.due("stones(" + h + ", " + k + ", 60)", wall.stones(h, k, 60), true);
            }
        }
        for (int k = 0; k < 8; k++) {
            Check.due("count(4, " + k + ")", wall.count(4, k), 60);
            Check.due("count(7, " + k + ")", wall.count(7, k), 300);
        }
    }

    private static void stonesAreSetNotAdded() {
        Check.sentence("Promise 4: a HEAP has so many of a KIND (no more than told)");
        StoneWall wall = two();
        Check.due("stones(0, 0, 60) of a full heap", wall.stones(0, 0, 60), true);
        Check.due("count(0, 0)", wall.count(0, 0), 60);
        Check.due("stones(0, 0, 1)", wall.stones(0, 0, 1), true);
        Check.due("count(0, 0)", wall.count(0, 0), 1);
    }

    private static void stonesWhileBuilt() {
        Check.sentence("Promise 4: false if a WALL is built");
        StoneWall wall = twoBuilt();
        Check.due("stones(0, 0, 1)", wall.stones(0, 0, 1), false);
        Check.due("stones(0, 0, 58), as it is", wall.stones(0, 0, 58), false);
        Check.due("frost(50)", wall.frost(50), 2);
        Check.due("stones(0, 0, 1), all at the foot", wall.stones(0, 0, 1), false);
        Check.due("count(0, 0)", wall.count(0, 0), 58);
        Check.due("take(0)", wall.take(0), 2);
        Check.due("stones(0, 0, 1), taken down", wall.stones(0, 0, 1), true);
    }

    private static void noPlanAfterStones() {
        Check.sentence("Promise 4: there is no PLAN then");
        StoneWall wall = twoPlanned();
        Check.due("stones(0, 0, 60), as it was", wall.stones(0, 0, 60), true);
        noPlan(wall);
        Check.due("plan()", wall.plan(), 2);
    }

    private static boolean tell(StoneWall wall, int[] w) {
        return wall.wall(w[0], w[1], w[2], w[3], w[4], w[5]);
    }

    private static void eachNumberOfAWall() {
        String[] names = {"x (-100 .. 100)", "y (-100 .. 100)", "LENGTH L (2 .. 24)", "COURSES 1 .. 6",
            "DEPTH (1 .. 4)", "BATTER (0 or 1)"};
        int[] low = {-100, -100, 2, 1, 1, 0};
        int[] high = {100, 100, 24, 6, 4, 1};
        for (int i = 0; i < 6; i++) {
            int at = i;
            Check.sentence("Promise 5: it can't be; Term 1: " + names[i]);
            Check.range("wall, the others small", low[i], high[i], v -> {
                int[] w = low.clone();
                w[at] = v;
                return tell(new StoneWall(), w) ? 1 : 0;
            }, 1, 0);
            Check.range("wall, the others great", low[i], high[i], v -> {
                int[] w = high.clone();
                w[at] = v;
                return tell(new StoneWall(), w) ? 1 : 0;
            }, 1, 0);
        }
    }

    private static void refusedWallLeavesNoneTold() {
        Check.sentence("Promise 5: false, and nothing happens (no WALL is told)");
        StoneWall wall = Check.withHeap(new int[] {2, 1, 60});
        Check.due("wall(0, 0, 25, 1, 1, 0)", wall.wall(0, 0, 25, 1, 1, 0), false);
        Check.due("plan()", wall.plan(), NONE);
        Check.due("through(0, 0)", wall.through(0, 0), false);
    }

    /** The refused walls differ from the one that is told in all that their last number does not rule out. */
    private static void refusedWallLeavesTheOldOne() {
        Check.sentence("Promise 5: false, and nothing happens (the WALL is as it was told before)");
        StoneWall wall = Check.withHeap(new int[] {2, 2, 60});
        wall.heap(5, 5);
        wall.wall(3, 4, 2, 2, 3, 1);
        wall.through(2, 1);
        int[][] wrong = {{-101, 0, 4, 1, 4, 0}, {0, 101, 4, 1, 4, 0}, {0, 0, 25, 1, 4, 0}, {0, 0, 4, 7, 4, 0},
            {0, 0, 4, 1, 5, 0}, {0, 0, 4, 1, 4, 2}};
        for (int[] w : wrong) {
            Check.due("wall" + java.util.Arrays.toString(w), tell(wall, w), false);
        }
        Check.due("plan(), length 2, two courses", wall.plan(), 2);
        Check.due("look(5), depth 3, a batter", wall.look(5), 2);
        Check.due("build(), at 3, 4", wall.build(), 2 * 4 * 7);
        wall.take(0);
        Check.due("through(3, 0), two courses", wall.through(3, 0), true);
    }

    private static void refusedWallLeavesThePlan() {
        Check.sentence("Promise 5: false, and nothing happens (the PLAN is there still)");
        StoneWall wall = twoPlanned();
        Check.due("wall(0, 0, 1, 1, 1, 0)", wall.wall(0, 0, 1, 1, 1, 0), false);
        Check.due("look(2)", wall.look(2), 2);
        Check.due("build()", wall.build(), 4);
    }

    private static void wallWhileBuilt() {
        Check.sentence("Promise 5: false, and nothing happens: a WALL is built");
        StoneWall wall = twoBuilt();
        Check.due("wall(0, 0, 2, 1, 1, 0)", wall.wall(0, 0, 2, 1, 1, 0), false);
        Check.due("frost(50)", wall.frost(50), 2);
        Check.due("wall(0, 0, 2, 1, 1, 0), all at the foot", wall.wall(0, 0, 2, 1, 1, 0), false);
        Check.due("look(2)", wall.look(2), 2);
        Check.due("look(3)", wall.look(3), 1);
        Check.due("take(0)", wall.take(0), 2);
        Check.due("plan(), the old wall", wall.plan(), 2);
        Check.due("wall(0, 0, 2, 1, 1, 0), taken down", wall.wall(0, 0, 2, 1, 1, 0), true);
        Check.due("plan(), the new wall", wall.plan(), 1);
    }

    private static void noPlanAfterAWall() {
        Check.sentence("Promise 5: there is no PLAN then");
        StoneWall wall = twoPlanned();
        Check.due("wall(0, 0, 4, 1, 1, 0), as it was", wall.wall(0, 0, 4, 1, 1, 0), true);
        noPlan(wall);
        Check.due("plan()", wall.plan(), 2);
    }

    /** Stones of depth 1 and length 2 one over the other: the hearting shows the width of each course. */
    private static void widths(int depth, int batter, int... due) {
        StoneWall wall = Check.withHeap(new int[] {2, 1, 6});
        wall.wall(0, 0, 2, 6, depth, batter);
        Check.due("plan()", wall.plan(), 6);
        for (int course = 0; course < 6; course++) {
            Check.stone(wall, course, 3, 2 * (due[course] - 1));
            Check.stone(wall, course, 4, due[course] == 1 ? 1 : 0);
        }
    }

    private static void widthIsNotBelowOne() {
        Check.sentence("Term 1: DEPTH less k times BATTER, 1 where that is below 1");
        widths(4, 1, 4, 3, 2, 1, 1, 1);
        widths(3, 1, 3, 2, 1, 1, 1, 1);
        widths(2, 1, 2, 1, 1, 1, 1, 1);
        widths(1, 1, 1, 1, 1, 1, 1, 1);
    }

    private static void widthWithoutBatter() {
        Check.sentence("Term 1: BATTER 0");
        widths(4, 0, 4, 4, 4, 4, 4, 4);
        widths(1, 0, 1, 1, 1, 1, 1, 1);
    }

    private static void anotherWallHasNoThroughCourses() {
        Check.sentence("Promise 5: the WALL is to be so (which of its COURSES are THROUGH is told after it)");
        StoneWall wall = two();
        Check.due("through(1, 3)", wall.through(1, 3), true);
        Check.due("plan(), three of two", wall.plan(), 0);
        Check.due("wall(0, 0, 2, 2, 1, 0)", wall.wall(0, 0, 2, 2, 1, 0), true);
        Check.due("plan()", wall.plan(), 2);
        Check.due("through(2, 3)", wall.through(2, 3), true);
        Check.due("plan(), three of one", wall.plan(), 0);
    }

    private static void throughWithoutAWall() {
        Check.sentence("Promise 6: false: no WALL told");
        StoneWall wall = new StoneWall();
        Check.due("through(0, 0)", wall.through(0, 0), false);
        Check.due("through(1, 1)", wall.through(1, 1), false);
        wall.wall(0, 0, 2, 1, 1, 0);
        Check.due("through(1, 1), told", wall.through(1, 1), true);
    }

    private static void bitsOfEachNumberOfCourses() {
        for (int c = 1; c <= 6; c++) {
            int courses = c;
            Check.sentence("Promise 6: false: no such bits, COURSES " + courses);
            Check.range("through(v, 1)", 0, (1 << courses) - 1, v -> {
                StoneWall wall = new StoneWall();
                wall.wall(0, 0, 2, courses, 1, 0);
                return wall.through(v, 1) ? 1 : 0;
            }, 1, 0);
        }
    }

    private static void bitsOfTheLatestWall() {
        Check.sentence("Promise 6: false: no such bits (of the WALL as it is told now)");
        StoneWall wall = new StoneWall();
        wall.wall(0, 0, 2, 6, 1, 0);
        Check.due("through(63, 1)", wall.through(63, 1), true);
        wall.wall(0, 0, 2, 2, 1, 0);
        Check.due("through(4, 1), two courses", wall.through(4, 1), false);
        Check.due("through(3, 1), two courses", wall.through(3, 1), true);
        wall.wall(0, 0, 2, 3, 1, 0);
        Check.due("through(4, 1), three courses", wall.through(4, 1), true);
    }

    private static void numberOfThroughs() {
        Check.sentence("Promise 6: false: no such number; Term 1: THROUGHS (0 .. 3)");
        Check.range("through(1, v)", 0, 3, v -> two().through(1, v) ? 1 : 0, 1, 0);
        Check.range("through(0, v)", 0, 3, v -> two().through(0, v) ? 1 : 0, 1, 0);
    }

    private static void refusedThroughLeavesTheOldOne() {
        Check.sentence("Promise 6: false (the THROUGH COURSES are as they were told before)");
        StoneWall wall = Check.withHeap(new int[] {1, 1, 9}, new int[] {1, 2, 9});
        wall.wall(0, 0, 3, 1, 2, 0);
        wall.through(1, 2);
        int[][] wrong = {{2, 0}, {-1, 0}, {0, 4}, {0, -1}, {1, 4}, {2, 1}};
        for (int[] w : wrong) {
            Check.due("through(" + w[0] + ", " + w[1] + ")", wall.through(w[0], w[1]), false);
        }
        Check.due("plan()", wall.plan(), 3);
        Check.kinds(wall, "011");
        Check.due("through(2, 0)", wall.through(2, 0), false);
        Check.due("look(2), the plan is there still", wall.look(2), 3);
    }

    private static void throughWhileBuilt() {
        Check.sentence("Promise 6: false: one is built");
        StoneWall wall = twoBuilt();
        Check.due("through(0, 0)", wall.through(0, 0), false);
        Check.due("through(1, 3)", wall.through(1, 3), false);
        Check.due("frost(50)", wall.frost(50), 2);
        Check.due("through(1, 3), all at the foot", wall.through(1, 3), false);
        Check.due("take(0)", wall.take(0), 2);
        Check.due("plan(), none are asked for", wall.plan(), 2);
        Check.due("through(1, 3), taken down", wall.through(1, 3), true);
        Check.due("plan(), three of two", wall.plan(), 0);
    }

    private static void noPlanAfterAThrough() {
        Check.sentence("Promise 6: there is no PLAN then");
        StoneWall wall = twoPlanned();
        Check.due("through(0, 0), as it was", wall.through(0, 0), true);
        noPlan(wall);
        Check.due("plan()", wall.plan(), 2);
    }
}
