/** Promise 7, with Terms 1 and 2: one test for each sentence that names a boundary of what a plan can be. */
public final class BoundsOfPlanTest {
    private static final int NONE = StoneWall.NONE;

    public static void main(String[] args) {
        noPlan();
        whatIsTried();
        joints();
        throughs();
        looks();
        Check.end();
    }

    private static void noPlan() {
        noWallTold();
        oneIsBuilt();
        noKindsNoHeaps();
        emptyHeaps();
        noPlanWhenThereIsNone();
        smallestWall();
        aPlanTakesNothing();
    }

    private static void whatIsTried() {
        deepestThatCanLie();
        deepestWithABatter();
        tooLong();
        lastStoneOfAKind();
        stonesOfAllHeaps();
        usedUpInTheMiddle();
        risingOrder();
    }

    private static void joints() {
        jointOverJoint();
        endsAreNoJoints();
        jointTwoCoursesBelow();
        longestAndHighest();
    }

    private static void throughs() {
        depthOfAThroughStone();
        exactlyAsManyThroughs();
        noThroughsAsked();
        otherCoursesAreNotAsked();
        highestCourseIsAsked();
        askedWhenItIsFull();
    }

    private static void looks() {
        noLooks();
        wholeWithTheLastLook();
        noneWithTheLastLook();
        oneLookTooMany();
        looksBeginAnew();
    }

    private static void planned(StoneWall wall, String kinds) {
        Check.due("plan()", wall.plan(), kinds.length());
        Check.kinds(wall, kinds);
    }

    private static void noWallTold() {
        Check.sentence("Promise 7: NONE: no WALL told");
        Check.due("plan() of a new object", new StoneWall().plan(), NONE);
        StoneWall wall = Check.withHeap(new int[] {2, 1, 60});
        Check.due("plan()", wall.plan(), NONE);
        Check.due("look(4)", wall.look(4), 0);
    }

    private static void oneIsBuilt() {
        Check.sentence("Promise 7: NONE: one is built");
        StoneWall wall = Check.withHeap(new int[] {2, 1, 60});
        wall.wall(0, 0, 4, 1, 1, 0);
        planned(wall, "00");
        Check.due("build()", wall.build(), 4);
        Check.due("plan()", wall.plan(), NONE);
        Check.due("look(3), it is built still", wall.look(3), 1);
        Check.due("frost(50)", wall.frost(50), 2);
        Check.due("plan(), all at the foot", wall.plan(), NONE);
        Check.due("look(6)", wall.look(6), 2);
        Check.due("take(0)", wall.take(0), 2);
        Check.due("plan(), taken down", wall.plan(), 2);
    }

    private static void noKindsNoHeaps() {
        Check.sentence("Promise 7: 0: there is none (nothing to build of)");
        StoneWall wall = new StoneWall();
        wall.wall(0, 0, 2, 1, 1, 0);
        Check.due("plan(), no kinds", wall.plan(), 0);
        wall.kind(2, 1);
        Check.due("plan(), no heaps", wall.plan(), 0);
        wall.heap(0, 0);
        Check.due("plan(), an empty heap", wall.plan(), 0);
        wall.stones(0, 0, 1);
        Check.due("plan(), a stone", wall.plan(), 1);
    }

    private static void emptyHeaps() {
        Check.sentence("Promise 7: 0: there is none (all HEAPS are empty)");
        StoneWall wall = Check.withHeap(new int[] {1, 1, 0}, new int[] {2, 1, 0});
        wall.heap(1, 1);
        wall.wall(0, 0, 2, 1, 1, 0);
        Check.due("plan()", wall.plan(), 0);
        Check.due("look(4)", wall.look(4), 0);
    }

    private static void noPlanWhenThereIsNone() {
        Check.sentence("Promise 7: 0: there is none (and so no PLAN)");
        StoneWall wall = Check.withHeap(new int[] {2, 1, 1});
        wall.wall(0, 0, 4, 1, 1, 0);
        Check.due("plan()", wall.plan(), 0);
        Check.due("look(2)", wall.look(2), 0);
        Check.due("look(5)", wall.look(5), 0);
        Check.due("over(0, 0)", wall.over(0, 0), NONE);
        Check.due("stone(0, 0) throws", Check.thrown(wall, 0, 0), Check.INDEX);
        Check.due("least()", wall.least(), NONE);
        Check.due("saved(0, 0)", wall.saved(0, 0), NONE);
        Check.due("build()", wall.build(), NONE);
    }

    private static void smallestWall() {
        Check.sentence("Promise 7: how many stones (the least that there can be)");
        StoneWall wall = Check.withHeap(new int[] {2, 1, 1});
        wall.wall(0, 0, 2, 1, 1, 0);
        planned(wall, "0");
        Check.due("look(4)", wall.look(4), 1);
    }

    private static void aPlanTakesNothing() {
        Check.sentence("Promise 7: the PLAN is made (the HEAPS stay full)");
        StoneWall wall = Check.withHeap(new int[] {2, 1, 1});
        wall.wall(0, 0, 2, 1, 1, 0);
        for (int i = 0; i < 3; i++) {
            Check.due("plan()", wall.plan(), 1);
            Check.due("count(0, 0)", wall.count(0, 0), 1);
        }
    }

    private static void deepestThatCanLie() {
        Check.sentence("Term 1: a stone can lie in it if its DEPTH is at most WIDTH and 1");
        for (int width = 1; width <= 4; width++) {
            for (int depth = 1; depth <= 4; depth++) {
                StoneWall wall = Check.withHeap(new int[] {2, depth, 1});
                wall.wall(0, 0, 2, 1, width, 0);
                String call = "plan(), width " + width + ", depth " + depth;
                Check.due(call, wall.plan(), depth <= width + 1 ? 1 : 0);
                Check.due("look(4) of it", wall.look(4), depth <= width + 1 ? 1 : 0);
            }
        }
    }

    private static void deepestWithABatter() {
        Check.sentence("Term 1: a stone can lie in it (WIDTH of the COURSE, 1 where that is below 1)");
        StoneWall wall = Check.withHeap(new int[] {2, 4, 60}, new int[] {2, 3, 60}, new int[] {2, 2, 60});
        wall.wall(0, 0, 2, 6, 4, 1);
        planned(wall, "001222");
        wall.wall(0, 0, 2, 6, 1, 1);
        planned(wall, "222222");
    }

    private static void tooLong() {
        Check.sentence("Term 2: LOOKS: is not too long");
        for (int length = 2; length <= 6; length++) {
            for (int stone = 1; stone <= 6; stone++) {
                StoneWall wall = Check.withHeap(new int[] {stone, 1, 1});
                wall.wall(0, 0, length, 1, 1, 0);
                Check.due("plan(), " + stone + " in " + length, wall.plan(), stone == length ? 1 : 0);
                Check.due("look(4) of it", wall.look(4), stone <= length ? 1 : 0);
            }
        }
        StoneWall wall = Check.withHeap(new int[] {5, 1, 60}, new int[] {4, 1, 1});
        wall.wall(0, 0, 24, 1, 1, 0);
        planned(wall, "00001");
        Check.due("look(4), four and the last, which is not too long", wall.look(4), 5);
    }

    private static void lastStoneOfAKind() {
        Check.sentence("Term 2: LOOKS: of which more is in the HEAPS than is used already");
        StoneWall wall = Check.withHeap(new int[] {2, 1, 3});
        wall.wall(0, 0, 6, 1, 1, 0);
        planned(wall, "000");
        Check.due("look(4)", wall.look(4), 3);
        wall.stones(0, 0, 2);
        Check.due("plan(), one too few", wall.plan(), 0);
        Check.due("look(4)", wall.look(4), 2);
    }

    private static void stonesOfAllHeaps() {
        Check.sentence("Term 2: LOOKS: more is in the HEAPS (in all five together)");
        StoneWall wall = new StoneWall();
        wall.kind(2, 1);
        for (int h = 0; h < 5; h++) {
            wall.heap(h, h);
            wall.stones(h, 0, 1);
        }
        wall.wall(0, 0, 10, 1, 1, 0);
        planned(wall, "00000");
        wall.wall(0, 0, 12, 1, 1, 0);
        Check.due("plan(), one too few", wall.plan(), 0);
        Check.due("look(4)", wall.look(4), 5);
    }

    private static void usedUpInTheMiddle() {
        Check.sentence("Term 2: LOOKS: used already (in the COURSES below, too)");
        StoneWall wall = Check.withHeap(new int[] {4, 1, 2}, new int[] {4, 2, 1});
        wall.wall(0, 0, 4, 3, 1, 0);
        planned(wall, "001");
        wall.stones(0, 1, 0);
        Check.due("plan(), one too few", wall.plan(), 0);
    }

    private static void risingOrder() {
        Check.sentence("Term 2: KINDS in rising order; the first whole wall");
        StoneWall wall = new StoneWall();
        wall.heap(0, 0);
        for (int k = 0; k < 8; k++) {
            wall.kind(1, 1);
            wall.stones(0, k, 1);
        }
        wall.wall(0, 0, 8, 1, 1, 0);
        planned(wall, "01234567");
        wall.stones(0, 0, 0);
        wall.wall(0, 0, 7, 1, 1, 0);
        planned(wall, "1234567");
        Check.due("look(4)", wall.look(4), 7);
    }

    private static void jointOverJoint() {
        Check.sentence("Term 1: JOINTS: none is at a place where the COURSE below has one");
        StoneWall wall = Check.withHeap(new int[] {2, 1, 60});
        wall.wall(0, 0, 4, 1, 1, 0);
        planned(wall, "00");
        wall.wall(0, 0, 4, 2, 1, 0);
        Check.due("plan()", wall.plan(), 0);
        Check.due("look(4), an end over a joint is no look", wall.look(4), 2);
    }

    private static void endsAreNoJoints() {
        Check.sentence("Term 1: JOINTS: places, not 0 or L");
        for (int length = 2; length <= 6; length++) {
            StoneWall wall = Check.withHeap(new int[] {length, 1, 6});
            wall.wall(0, 0, length, 6, 1, 0);
            planned(wall, "000000");
            Check.due("look(4)", wall.look(4), 6);
        }
        StoneWall wall = Check.withHeap(new int[] {6, 1, 4}, new int[] {3, 1, 2}, new int[] {6, 1, 3});
        wall.wall(0, 0, 24, 2, 1, 0);
        planned(wall, "000012221");
    }

    private static void jointTwoCoursesBelow() {
        Check.sentence("Term 1: JOINTS: the COURSE below (not the one below that)");
        StoneWall wall = Check.withHeap(new int[] {1, 1, 60}, new int[] {2, 1, 60});
        wall.wall(0, 0, 3, 3, 1, 0);
        planned(wall, "011001");
        // 0, 0, 0 with nothing over it; then 1 at 1; 1 and 0 over it; 0 and 1.
        Check.due("look(4)", wall.look(4), 8);
    }

    private static void longestAndHighest() {
        Check.sentence("Term 1: LENGTH L 24, COURSES 6");
        StoneWall wall = Check.withHeap(new int[] {6, 1, 60}, new int[] {3, 1, 60});
        wall.wall(0, 0, 24, 6, 1, 0);
        planned(wall, "0000" + "10001" + "0000" + "10001" + "0000" + "10001");
        Check.due("over(5, 23)", wall.over(5, 23), 26);
        // No two courses one over the other have more than 23 joints, so no wall has more stones than this one.
        wall = Check.withHeap(new int[] {2, 1, 60}, new int[] {1, 1, 6});
        wall.heap(0, 0);
        wall.stones(1, 0, 9);
        wall.wall(0, 0, 24, 6, 1, 0);
        planned(wall, ("0".repeat(12) + "1" + "0".repeat(11) + "1").repeat(3));
        Check.due("look(4)", wall.look(4), 75);
        wall.stones(1, 0, 8);
        Check.due("plan(), one too few is no such wall", wall.plan() == 75, false);
    }

    private static void depthOfAThroughStone() {
        Check.sentence("Term 1: a THROUGH-stone if its DEPTH is not below WIDTH");
        for (int width = 1; width <= 4; width++) {
            for (int depth = 1; depth <= Math.min(4, width + 1); depth++) {
                StoneWall wall = Check.withHeap(new int[] {2, depth, 1});
                wall.wall(0, 0, 2, 1, width, 0);
                wall.through(1, 1);
                Check.due("plan(), width " + width + ", depth " + depth, wall.plan(), depth >= width ? 1 : 0);
            }
        }
    }

    private static void exactlyAsManyThroughs() {
        Check.sentence("Term 1: a THROUGH COURSE has THROUGHS of these at least");
        for (int asked = 1; asked <= 3; asked++) {
            for (int there = 0; there <= 4; there++) {
                StoneWall wall = Check.withHeap(new int[] {1, 2, there}, new int[] {1, 1, 60});
                wall.wall(0, 0, 5, 1, 2, 0);
                wall.through(1, asked);
                Check.due("plan(), " + asked + " asked, " + there + " there", wall.plan(), there >= asked ? 5 : 0);
            }
        }
    }

    private static void noThroughsAsked() {
        Check.sentence("Term 1: THROUGHS 0, and THROUGH without a bit");
        StoneWall wall = Check.withHeap(new int[] {2, 1, 60});
        wall.wall(0, 0, 2, 2, 2, 0);
        wall.through(3, 0);
        Check.due("plan(), through(3, 0)", wall.plan(), 2);
        wall.through(0, 3);
        Check.due("plan(), through(0, 3)", wall.plan(), 2);
        wall.through(3, 1);
        Check.due("plan(), through(3, 1)", wall.plan(), 0);
    }

    /** Of one course after the other a through-stone is asked: it alone changes its stone. */
    private static void otherCoursesAreNotAsked() {
        Check.sentence("Term 1: THROUGH (bits: of COURSES)");
        StoneWall wall = Check.withHeap(new int[] {2, 1, 60}, new int[] {2, 2, 60});
        wall.wall(0, 0, 2, 6, 2, 0);
        for (int course = 0; course < 6; course++) {
            wall.through(1 << course, 1);
            planned(wall, "0".repeat(course) + "1" + "0".repeat(5 - course));
        }
        wall.through(63, 1);
        planned(wall, "111111");
        wall.through(0, 1);
        planned(wall, "000000");
    }

    private static void highestCourseIsAsked() {
        Check.sentence("Term 2: whether a THROUGH COURSE has enough is asked when it is full (the highest, too)");
        StoneWall wall = Check.withHeap(new int[] {2, 1, 60});
        wall.wall(0, 0, 2, 6, 2, 0);
        wall.through(32, 1);
        Check.due("plan()", wall.plan(), 0);
        Check.due("look(4)", wall.look(4), 6);
    }

    private static void askedWhenItIsFull() {
        Check.sentence("Term 2: whether a THROUGH COURSE has enough is asked when it is full (not before)");
        StoneWall wall = Check.withHeap(new int[] {1, 1, 60}, new int[] {1, 2, 1});
        wall.wall(0, 0, 3, 1, 2, 0);
        wall.through(1, 3);
        Check.due("plan()", wall.plan(), 0);
        // 0, 1; 00, 01, 10; 000, 001, 010, 100.
        Check.due("look(4)", wall.look(4), 2 + 3 + 4);
    }

    private static void noLooks() {
        Check.sentence("Promise 17: LOOKS of the latest plan() (0)");
        StoneWall wall = Check.withHeap(new int[] {2, 4, 60}, new int[] {6, 1, 60}, new int[] {1, 1, 0});
        Check.due("look(4) before a plan", wall.look(4), 0);
        wall.wall(0, 0, 5, 1, 2, 0);
        Check.due("plan(): too deep, too long, none", wall.plan(), 0);
        Check.due("look(4)", wall.look(4), 0);
    }

    private static void wholeWithTheLastLook() {
        Check.sentence("Term 2: SPENT: more than 20000 LOOKS (20000 are not: the wall is whole)");
        StoneWall wall = Check.withHeap(new int[] {1, 1, 12}, new int[] {1, 1, 10}, new int[] {3, 2, 5},
            new int[] {1, 1, 3});
        wall.wall(0, 0, 15, 1, 2, 0);
        wall.through(1, 3);
        Check.due("plan()", wall.plan(), 9);
        Check.due("look(4)", wall.look(4), 20000);
        Check.due("look(2)", wall.look(2), 9);
    }

    private static void noneWithTheLastLook() {
        Check.sentence("Term 2: SPENT: more than 20000 LOOKS (20000 are not: there is none)");
        StoneWall wall = Check.withHeap(new int[] {1, 1, 5}, new int[] {1, 1, 5}, new int[] {1, 2, 1},
            new int[] {2, 2, 5});
        wall.wall(0, 0, 9, 3, 2, 0);
        wall.through(4, 2);
        Check.due("plan()", wall.plan(), 0);
        Check.due("look(4)", wall.look(4), 20000);
    }

    private static StoneWall spent() {
        StoneWall wall = Check.withHeap(new int[] {3, 1, 10}, new int[] {2, 2, 2}, new int[] {2, 1, 11});
        wall.wall(0, 0, 16, 3, 2, 0);
        wall.through(6, 2);
        Check.due("plan()", wall.plan(), -2);
        return wall;
    }

    private static void oneLookTooMany() {
        Check.sentence("Promise 7: -2: SPENT; Term 2: when there would be more than 20000 LOOKS");
        StoneWall wall = spent();
        Check.due("look(4)", wall.look(4), 20000);
        Check.due("look(2)", wall.look(2), 0);
        Check.due("look(5)", wall.look(5), 0);
        Check.due("least()", wall.least(), NONE);
        Check.due("saved(0, 0)", wall.saved(0, 0), NONE);
        Check.due("over(0, 0)", wall.over(0, 0), NONE);
        Check.due("stone(0, 0) throws", Check.thrown(wall, 0, 0), Check.INDEX);
        Check.due("build()", wall.build(), NONE);
    }

    private static void looksBeginAnew() {
        Check.sentence("Promise 17: LOOKS of the latest plan() (each begins with none)");
        StoneWall wall = spent();
        Check.due("plan() again", wall.plan(), -2);
        Check.due("look(4)", wall.look(4), 20000);
        wall.wall(0, 0, 3, 1, 1, 0);
        Check.due("look(4), no plan since", wall.look(4), 20000);
        Check.due("plan()", wall.plan(), 1);
        Check.due("look(4)", wall.look(4), 1);
    }
}
