/** Promises 12 to 15, with Terms 2 and 3: one test for each sentence that names a boundary of what is built. */
public final class BoundsOfBuiltTest {
    private static final int NONE = StoneWall.NONE;

    public static void main(String[] args) {
        build();
        frost();
        slips();
        mend();
        take();
        Check.end();
    }

    private static void build() {
        buildWithoutAPlan();
        buildTwice();
        carriedNothing();
        lastStoneOfAHeap();
        lesserNumber();
        emptyHeapIsPassedBy();
        emptiesTheHeaps();
    }

    private static void frost() {
        frostOfNoWall();
        strengthOfAFrost();
        refusedFrost();
        frostOfNoStrength();
        holdWhenLaid();
        fallWithFreeEnds();
        fallAtOnce();
        holdIsNotBelowZero();
        holdOneStands();
        fromFootNothingFalls();
    }

    private static void slips() {
        halfOfTheLength();
        lowestCourseNeedsNothing();
        slipsAsLongAsThereAreSuch();
        frostOfAFallenWall();
    }

    private static void mend() {
        mendNoWall();
        mendNothing();
        mendSome();
        mendAll();
    }

    private static void take() {
        takeNoWall();
        heapOfTake();
        fifthHeapOfTake();
        sixtyOfAKind();
        sixtyWithThoseAtTheFoot();
        oneKindTooMany();
        otherKindIsFull();
        noPlanAfterATake();
        refusedTakeLeavesTheWall();
        smallerWallAfterALarger();
        lowerWallAfterAHigher();
    }

    /** Stones of length 2 in one course, as many as told, each in heap 0 at 0, 0. */
    private static StoneWall row(int stones) {
        StoneWall wall = Check.withHeap(new int[] {2, 1, stones});
        wall.wall(0, 0, 2 * stones, 1, 1, 0);
        Check.due("plan()", wall.plan(), stones);
        return wall;
    }

    private static StoneWall rowBuilt(int stones) {
        StoneWall wall = row(stones);
        Check.due("build()", wall.build(), 2 * stones * (stones - 1));
        return wall;
    }

    private static void holds(StoneWall wall, int... due) {
        for (int i = 0; i < due.length; i++) {
            Check.stone(wall, i, 5, due[i]);
        }
    }

    private static void stands(StoneWall wall, String due) {
        for (int i = 0; i < due.length(); i++) {
            Check.stone(wall, i, 6, due.charAt(i) - '0');
        }
    }

    private static void buildWithoutAPlan() {
        Check.sentence("Promise 12: NONE: there is no PLAN");
        Check.due("build() of a new object", new StoneWall().build(), NONE);
        StoneWall wall = Check.withHeap(new int[] {2, 1, 1});
        Check.due("build(), no wall", wall.build(), NONE);
        wall.wall(0, 0, 4, 1, 1, 0);
        Check.due("build(), a wall is told", wall.build(), NONE);
        Check.due("plan(), none", wall.plan(), 0);
        Check.due("build(), no plan was found", wall.build(), NONE);
        Check.due("look(3)", wall.look(3), 0);
        Check.due("count(0, 0)", wall.count(0, 0), 1);
    }

    private static void buildTwice() {
        Check.sentence("Promise 12: NONE: it is built");
        StoneWall wall = rowBuilt(2);
        Check.due("build()", wall.build(), NONE);
        Check.due("frost(50)", wall.frost(50), 2);
        Check.due("build(), all at the foot", wall.build(), NONE);
        stands(wall, "00");
        Check.due("take(0)", wall.take(0), 2);
        Check.due("build(), no plan then", wall.build(), NONE);
        Check.due("plan()", wall.plan(), 2);
        Check.due("build()", wall.build(), 4);
    }

    private static void carriedNothing() {
        Check.sentence("Promise 12: CARRIED (0, which is not NONE)");
        StoneWall wall = row(1);
        Check.due("build()", wall.build(), 0);
        Check.due("look(3)", wall.look(3), 1);
    }

    private static void lastStoneOfAHeap() {
        Check.sentence("Term 2: build(): of those that have the KIND still");
        StoneWall wall = row(3);
        wall.heap(50, 0);
        wall.stones(0, 0, 1);
        wall.stones(1, 0, 2);
        Check.due("plan()", wall.plan(), 3);
        Check.due("build(), 50 to 2 and to 4", wall.build(), 2 * (0 + 48 + 46));
        Check.stone(wall, 0, 7, 0);
        Check.stone(wall, 1, 7, 1);
        Check.stone(wall, 2, 7, 1);
        Check.due("count(0, 0)", wall.count(0, 0), 0);
        Check.due("count(1, 0)", wall.count(1, 0), 0);
    }

    private static void lesserNumber() {
        Check.sentence("Term 2: build(): of several the lesser number");
        StoneWall wall = new StoneWall();
        wall.kind(2, 1);
        int[][] at = {{8, 0}, {0, 7}, {7, 0}, {0, -7}, {-7, 0}};
        for (int h = 0; h < 5; h++) {
            wall.heap(at[h][0], at[h][1]);
            wall.stones(h, 0, 1);
        }
        wall.wall(0, 0, 2, 5, 1, 0);
        Check.due("plan()", wall.plan(), 5);
        Check.due("build()", wall.build(), 2 * (4 * 7 + 8));
        int[] due = {1, 2, 3, 4, 0};
        for (int i = 0; i < 5; i++) {
            Check.stone(wall, i, 7, due[i]);
        }
    }

    private static void emptyHeapIsPassedBy() {
        Check.sentence("Term 2: build(): of those that have the KIND (an empty HEAP at the place itself)");
        StoneWall wall = new StoneWall();
        wall.kind(2, 1);
        wall.heap(0, 0);
        wall.heap(100, 100);
        wall.stones(1, 0, 1);
        wall.wall(0, 0, 2, 1, 1, 0);
        Check.due("plan()", wall.plan(), 1);
        Check.due("build()", wall.build(), 2 * 200);
        Check.stone(wall, 0, 7, 1);
    }

    private static void emptiesTheHeaps() {
        Check.sentence("Promise 12: the PLAN is built (a full HEAP down to none)");
        StoneWall wall = Check.withHeap(new int[] {1, 1, 24});
        wall.wall(0, 0, 24, 1, 1, 0);
        Check.due("plan()", wall.plan(), 24);
        Check.due("count(0, 0)", wall.count(0, 0), 24);
        Check.due("build()", wall.build(), 276);
        Check.due("count(0, 0)", wall.count(0, 0), 0);
        Check.due("count(5, 0)", wall.count(5, 0), 24);
    }

    private static void frostOfNoWall() {
        Check.sentence("Promise 13: NONE: none is built");
        Check.due("frost(0) of a new object", new StoneWall().frost(0), NONE);
        StoneWall wall = row(2);
        Check.due("frost(0), a plan", wall.frost(0), NONE);
        Check.due("frost(50), a plan", wall.frost(50), NONE);
        Check.due("look(7)", wall.look(7), 0);
        wall.build();
        Check.due("frost(0)", wall.frost(0), 0);
        wall.take(0);
        Check.due("frost(0), taken down", wall.frost(0), NONE);
    }

    private static void strengthOfAFrost() {
        Check.sentence("Promise 13: a FROST, 0 .. 50; NONE: no such strength");
        for (int v : new int[] {-1, 51, Integer.MIN_VALUE, Integer.MAX_VALUE}) {
            Check.due("frost(" + v + ")", rowBuilt(3).frost(v), NONE);
        }
        Check.due("frost(0)", rowBuilt(3).frost(0), 0);
        Check.due("frost(1)", rowBuilt(3).frost(1), 0);
        Check.due("frost(49)", rowBuilt(3).frost(49), 0);
        Check.due("frost(50)", rowBuilt(3).frost(50), 2);
    }

    private static void refusedFrost() {
        Check.sentence("Promise 13: NONE: no such strength (nothing falls)");
        StoneWall wall = rowBuilt(3);
        wall.frost(51);
        wall.frost(-1);
        holds(wall, 99, 99, 99);
        Check.due("look(7)", wall.look(7), 0);
    }

    private static void frostOfNoStrength() {
        Check.sentence("Promise 13: a FROST, 0");
        StoneWall wall = rowBuilt(3);
        Check.due("frost(0)", wall.frost(0), 0);
        holds(wall, 99, 99, 99);
        Check.due("look(7), it is a frost", wall.look(7), 1);
    }

    private static void holdWhenLaid() {
        Check.sentence("Term 3: HOLD of a stone: 99 when it is laid");
        StoneWall wall = rowBuilt(3);
        holds(wall, 99, 99, 99);
        wall.frost(40);
        holds(wall, 19, 59, 19);
        wall.take(0);
        wall.plan();
        wall.build();
        holds(wall, 99, 99, 99);
    }

    private static void fallWithFreeEnds() {
        Check.sentence("Term 3: 1, and 1 for each of its two ends at which no stone stands beside it");
        StoneWall lone = rowBuilt(1);
        lone.frost(10);
        holds(lone, 69);
        StoneWall two = rowBuilt(2);
        two.frost(10);
        holds(two, 79, 79);
        StoneWall three = rowBuilt(3);
        three.frost(10);
        holds(three, 79, 89, 79);
        StoneWall courses = Check.withHeap(new int[] {4, 1, 1}, new int[] {2, 1, 2}, new int[] {4, 2, 1});
        courses.wall(0, 0, 4, 3, 1, 0);
        Check.due("plan(), another course is not beside it", courses.plan(), 4);
        courses.build();
        courses.frost(10);
        holds(courses, 69, 79, 79, 69);
    }

    private static void fallAtOnce() {
        Check.sentence("Term 3: of each stone that stands, at once");
        StoneWall wall = rowBuilt(3);
        Check.due("frost(50)", wall.frost(50), 2);
        // The ends slip in this frost, and the one between them has free ends in the next.
        holds(wall, 0, 49, 0);
        Check.due("frost(16)", wall.frost(16), 0);
        holds(wall, 0, 1, 0);
        Check.due("frost(1)", wall.frost(1), 1);
        holds(wall, 0, 0, 0);
    }

    private static void holdIsNotBelowZero() {
        Check.sentence("Term 3: HOLD falls, not below 0");
        StoneWall wall = rowBuilt(1);
        Check.due("frost(50), 150 of 99", wall.frost(50), 1);
        holds(wall, 0);
        StoneWall exact = rowBuilt(1);
        Check.due("frost(33), 99 of 99", exact.frost(33), 1);
        holds(exact, 0);
    }

    private static void holdOneStands() {
        Check.sentence("Term 3: stones that stand with HOLD 0 SLIP");
        StoneWall wall = rowBuilt(2);
        Check.due("frost(49), 98 of 99", wall.frost(49), 0);
        holds(wall, 1, 1);
        stands(wall, "11");
        Check.due("frost(0)", wall.frost(0), 0);
        Check.due("frost(1), 2 of 1", wall.frost(1), 2);
        holds(wall, 0, 0);
        stands(wall, "00");
        Check.due("look(6)", wall.look(6), 2);
    }

    /** Two stones of 2 and one of 4 over them, which slips as it is not borne any more, with HOLD left. */
    private static void fromFootNothingFalls() {
        Check.sentence("Term 3: HOLD of each stone that stands falls (not of one at the foot)");
        StoneWall wall = Check.withHeap(new int[] {2, 1, 2}, new int[] {4, 1, 1});
        wall.wall(0, 0, 4, 2, 1, 0);
        Check.due("plan()", wall.plan(), 3);
        wall.build();
        Check.due("frost(33)", wall.frost(33), 1);
        Check.due("mend()", wall.mend(), 1);
        Check.due("frost(17)", wall.frost(17), 3);
        holds(wall, 0, 0, 48);
        Check.due("frost(50)", wall.frost(50), 0);
        holds(wall, 0, 0, 48);
    }

    /**
     * Three stones, and three over them. A frost of 50 takes the outer ones; of the lower course the middle one stays,
     * and of the upper course the middle one, if enough of it lies over that.
     */
    private static void borne(int[] lengths, int over, boolean stays) {
        StoneWall wall = new StoneWall();
        wall.heap(0, 0);
        for (int k = 0; k < 6; k++) {
            wall.kind(lengths[k], 1);
            wall.stones(0, k, 1);
        }
        wall.wall(0, 0, lengths[0] + lengths[1] + lengths[2], 2, 1, 0);
        Check.due("plan()", wall.plan(), 6);
        Check.kinds(wall, "012345");
        wall.build();
        String call = "frost(50), " + over + " of " + lengths[4] + " borne";
        Check.due(call, wall.frost(50), stays ? 4 : 5);
        stands(wall, stays ? "010010" : "010000");
        holds(wall, 0, 49, 0, 0, 49, 0);
    }

    private static void halfOfTheLength() {
        Check.sentence("Term 3: of whose LENGTH less than half lies over stones of the COURSE below that stand");
        borne(new int[] {1, 3, 4, 5, 1, 2}, 0, false);
        borne(new int[] {1, 3, 1, 2, 1, 2}, 1, true);
        borne(new int[] {1, 2, 4, 4, 2, 1}, 0, false);
        borne(new int[] {2, 2, 2, 3, 2, 1}, 1, true);
        borne(new int[] {2, 2, 3, 3, 3, 1}, 1, false);
        borne(new int[] {2, 3, 2, 3, 3, 1}, 2, true);
        borne(new int[] {2, 1, 3, 1, 4, 1}, 1, false);
        borne(new int[] {2, 2, 2, 1, 4, 1}, 2, true);
        borne(new int[] {2, 2, 3, 1, 5, 1}, 2, false);
        borne(new int[] {2, 3, 2, 1, 5, 1}, 3, true);
        borne(new int[] {2, 2, 4, 1, 6, 1}, 2, false);
        borne(new int[] {2, 3, 3, 1, 6, 1}, 3, true);
    }

    private static void lowestCourseNeedsNothing() {
        Check.sentence("Term 3: those above COURSE 0 (COURSE 0 is borne by the ground)");
        StoneWall wall = rowBuilt(12);
        Check.due("frost(50)", wall.frost(50), 2);
        stands(wall, "011111111110");
    }

    /** Two stones of 2, and over them five of 4, which have lost nothing when the lowest ones slip. */
    private static void slipsAsLongAsThereAreSuch() {
        Check.sentence("Term 3: as long as there are such (all such at once, then anew)");
        StoneWall wall = Check.withHeap(new int[] {2, 1, 2}, new int[] {4, 1, 5});
        wall.wall(0, 0, 4, 6, 1, 0);
        Check.due("plan()", wall.plan(), 7);
        wall.build();
        Check.due("frost(33)", wall.frost(33), 5);
        Check.due("mend()", wall.mend(), 5);
        Check.due("frost(17)", wall.frost(17), 7);
        holds(wall, 0, 0, 48, 48, 48, 48, 48);
        stands(wall, "0000000");
        Check.due("look(6)", wall.look(6), 7);
    }

    private static void frostOfAFallenWall() {
        Check.sentence("Promise 13: how many stones SLIP (0 when none stands)");
        StoneWall wall = rowBuilt(1);
        Check.due("frost(50)", wall.frost(50), 1);
        Check.due("frost(50)", wall.frost(50), 0);
        Check.due("look(7)", wall.look(7), 2);
        Check.due("look(6)", wall.look(6), 1);
    }

    private static void mendNoWall() {
        Check.sentence("Promise 14: NONE: none is built");
        Check.due("mend() of a new object", new StoneWall().mend(), NONE);
        StoneWall wall = row(2);
        Check.due("mend(), a plan", wall.mend(), NONE);
        holds(wall, 0, 0);
        wall.build();
        wall.take(0);
        Check.due("mend(), taken down", wall.mend(), NONE);
    }

    private static void mendNothing() {
        Check.sentence("Promise 14: how many were laid anew (0; those that stand keep their HOLD)");
        StoneWall wall = rowBuilt(3);
        Check.due("mend()", wall.mend(), 0);
        wall.frost(40);
        Check.due("mend()", wall.mend(), 0);
        holds(wall, 19, 59, 19);
    }

    private static void mendSome() {
        Check.sentence("Term 3: MEND: all that lie there are laid where they were, with HOLD 99");
        StoneWall wall = rowBuilt(3);
        Check.due("frost(50)", wall.frost(50), 2);
        Check.due("mend()", wall.mend(), 2);
        holds(wall, 99, 49, 99);
        stands(wall, "111");
        Check.due("over(0, 0)", wall.over(0, 0), 0);
        Check.due("over(0, 5)", wall.over(0, 5), 2);
        Check.due("mend() again", wall.mend(), 0);
        Check.due("frost(1), the middle one has no free ends", wall.frost(1), 0);
        holds(wall, 97, 48, 97);
    }

    private static void mendAll() {
        Check.sentence("Promise 14: how many were laid anew (all)");
        StoneWall wall = rowBuilt(2);
        Check.due("frost(50)", wall.frost(50), 2);
        Check.due("mend()", wall.mend(), 2);
        holds(wall, 99, 99);
        Check.due("look(6)", wall.look(6), 0);
        Check.due("count(5, 0)", wall.count(5, 0), 2);
        Check.due("count(0, 0), none from the heap", wall.count(0, 0), 0);
    }

    private static void takeNoWall() {
        Check.sentence("Promise 15: NONE: none is built");
        StoneWall wall = row(2);
        Check.due("take(0), a plan", wall.take(0), NONE);
        Check.due("look(2), it is there still", wall.look(2), 2);
        wall.build();
        Check.due("take(0)", wall.take(0), 2);
        Check.due("take(0) again", wall.take(0), NONE);
        Check.due("count(0, 0)", wall.count(0, 0), 2);
    }

    private static void heapOfTake() {
        Check.sentence("Promise 15: NONE: no such HEAP");
        Check.range("take(v), one heap", 0, 0, v -> rowBuilt(2).take(v), 2, NONE);
        Check.due("take(0) of a new object", new StoneWall().take(0), NONE);
    }

    /** Three stones of kind 0 from heap 0; heaps 1 to 4 lie farther, with as many of kinds 0 and 1 as told. */
    private static StoneWall five(int[] first, int[] second) {
        StoneWall wall = Check.withHeap(new int[] {2, 1, 3}, new int[] {1, 1, 0});
        for (int h = 1; h < 5; h++) {
            wall.heap(90 + h, 0);
            wall.stones(h, 0, first[h]);
            wall.stones(h, 1, second[h]);
        }
        wall.wall(0, 0, 6, 1, 1, 0);
        Check.due("plan()", wall.plan(), 3);
        Check.due("build()", wall.build(), 12);
        return wall;
    }

    private static void fifthHeapOfTake() {
        Check.sentence("Promise 15: it is taken down to a HEAP (the last that there can be)");
        int[] none = {0, 0, 0, 0, 0};
        Check.range("take(v), five heaps", 0, 4, v -> five(none, none).take(v), 3, NONE);
        StoneWall wall = five(none, none);
        wall.take(4);
        for (int h = 0; h < 5; h++) {
            Check.due("count(" + h + ", 0)", wall.count(h, 0), h == 4 ? 3 : 0);
        }
    }

    private static void sixtyOfAKind() {
        Check.sentence("Promise 15: NONE: too many; Term 3: refused if that would have more than 60 of a KIND");
        int[] first = {0, 57, 58, 60, 56};
        int[] none = {0, 0, 0, 0, 0};
        for (int h = 1; h < 5; h++) {
            StoneWall wall = five(first, none);
            boolean room = first[h] <= 57;
            Check.due("take(" + h + "), 3 to " + first[h], wall.take(h), room ? 3 : NONE);
            Check.due("count(" + h + ", 0)", wall.count(h, 0), room ? first[h] + 3 : first[h]);
            Check.due("look(3)", wall.look(3), room ? 0 : 1);
        }
    }

    private static void sixtyWithThoseAtTheFoot() {
        Check.sentence("Term 3: all of its stones (those at the foot, too)");
        int[] first = {0, 57, 58, 59, 60};
        int[] none = {0, 0, 0, 0, 0};
        for (int frosts = 1; frosts <= 2; frosts++) {
            StoneWall wall = five(first, none);
            for (int i = 0; i < frosts; i++) {
                wall.frost(50);
            }
            Check.due("look(6)", wall.look(6), frosts + 1);
            Check.due("take(2), 61", wall.take(2), NONE);
            Check.due("take(3), 62", wall.take(3), NONE);
            Check.due("take(1), 60", wall.take(1), 3);
            Check.due("count(1, 0)", wall.count(1, 0), 60);
            Check.due("look(6), nothing at the foot", wall.look(6), 0);
        }
    }

    /** Heap 1 has room for the stones of kind 0, but not for the one of kind 1: nothing goes there. */
    private static void oneKindTooMany() {
        Check.sentence("Promise 15: NONE: too many (of one KIND: nothing is taken)");
        StoneWall wall = Check.withHeap(new int[] {2, 1, 2}, new int[] {1, 1, 1});
        wall.heap(90, 0);
        wall.stones(1, 1, 60);
        wall.wall(0, 0, 5, 1, 1, 0);
        Check.due("plan()", wall.plan(), 3);
        wall.build();
        Check.due("count(0, 1), it is from the nearer heap", wall.count(0, 1), 0);
        Check.due("take(1)", wall.take(1), NONE);
        Check.due("count(1, 0)", wall.count(1, 0), 0);
        Check.due("count(1, 1)", wall.count(1, 1), 60);
        Check.due("count(5, 0)", wall.count(5, 0), 2);
        Check.due("take(0)", wall.take(0), 3);
    }

    private static void otherKindIsFull() {
        Check.sentence("Term 3: more than 60 of a KIND (60 of one that is not in the WALL are not)");
        int[] none = {0, 0, 0, 0, 0};
        int[] full = {0, 60, 60, 60, 60};
        StoneWall wall = five(none, full);
        Check.due("take(1)", wall.take(1), 3);
        Check.due("count(1, 0)", wall.count(1, 0), 3);
        Check.due("count(1, 1)", wall.count(1, 1), 60);
    }

    private static void noPlanAfterATake() {
        Check.sentence("Promise 15: there is no PLAN then");
        StoneWall wall = rowBuilt(2);
        Check.due("take(0)", wall.take(0), 2);
        for (int what : new int[] {2, 3, 5, 6, 7}) {
            Check.due("look(" + what + ")", wall.look(what), 0);
        }
        Check.due("least()", wall.least(), NONE);
        Check.due("saved(0, 0)", wall.saved(0, 0), NONE);
        Check.due("over(0, 0)", wall.over(0, 0), NONE);
        Check.due("stone(0, 0) throws", Check.thrown(wall, 0, 0), Check.INDEX);
        Check.due("build()", wall.build(), NONE);
        Check.due("count(5, 0)", wall.count(5, 0), 0);
    }

    private static void refusedTakeLeavesTheWall() {
        Check.sentence("Promise 15: NONE: no such HEAP (the WALL is as it was)");
        StoneWall wall = rowBuilt(3);
        wall.frost(50);
        Check.due("take(1)", wall.take(1), NONE);
        Check.due("take(-1)", wall.take(-1), NONE);
        holds(wall, 0, 49, 0);
        stands(wall, "010");
        Check.due("look(7)", wall.look(7), 1);
        Check.due("count(0, 0)", wall.count(0, 0), 0);
    }

    private static void smallerWallAfterALarger() {
        Check.sentence("Promise 15: there is no PLAN then (nothing of the old WALL is left in a smaller one)");
        StoneWall wall = rowBuilt(3);
        wall.take(0);
        wall.wall(0, 0, 4, 1, 1, 0);
        Check.due("plan()", wall.plan(), 2);
        Check.due("stone(2, 0) throws", Check.thrown(wall, 2, 0), Check.INDEX);
        Check.due("over(0, 4)", wall.over(0, 4), NONE);
        Check.due("least()", wall.least(), 4);
        Check.due("build()", wall.build(), 4);
        Check.due("count(0, 0)", wall.count(0, 0), 1);
        Check.due("count(5, 0)", wall.count(5, 0), 2);
        Check.due("frost(10)", wall.frost(10), 0);
        holds(wall, 79, 79);
        Check.due("frost(50)", wall.frost(50), 2);
        Check.due("look(6)", wall.look(6), 2);
        Check.due("mend()", wall.mend(), 2);
        Check.due("take(0)", wall.take(0), 2);
        Check.due("count(7, 0)", wall.count(7, 0), 3);
    }

    private static void lowerWallAfterAHigher() {
        Check.sentence("Promise 13: how many stones SLIP (none of the old WALL)");
        StoneWall wall = Check.withHeap(new int[] {6, 1, 2}, new int[] {2, 1, 1});
        wall.wall(0, 0, 6, 2, 1, 0);
        Check.due("plan()", wall.plan(), 2);
        wall.build();
        wall.take(0);
        wall.wall(0, 0, 2, 1, 1, 0);
        Check.due("plan()", wall.plan(), 1);
        wall.build();
        Check.due("frost(0)", wall.frost(0), 0);
        Check.due("look(6)", wall.look(6), 0);
        Check.due("frost(33)", wall.frost(33), 1);
        Check.due("mend()", wall.mend(), 1);
    }
}
