/** Promises 8 to 11, 16 and 17: one test for each sentence that names a boundary of what can be asked. */
public final class BoundsOfAskingTest {
    private static final int NONE = StoneWall.NONE;
    private static final int MIN = Integer.MIN_VALUE;
    private static final int MAX = Integer.MAX_VALUE;

    public static void main(String[] args) {
        stone();
        over();
        least();
        saved();
        count();
        look();
        Check.end();
    }

    private static void stone() {
        noStones();
        firstAndLastStone();
        firstAndLastWhat();
        bothWrong();
        notBuilt();
        heartingAndThrough();
    }

    private static void over() {
        overNothing();
        coursesOfOver();
        placesOfOver();
        standingOrNot();
        overTheFarEnd();
    }

    private static void least() {
        leastWithoutAPlan();
        leastOfNoToil();
        leastOfTheHeapsAsTheyWere();
        leastFromTheLastStones();
        leastByHeapsInEachOthersStead();
    }

    private static void saved() {
        savedWithoutAPlan();
        heapOfSaved();
        kindOfSaved();
        nothingSaved();
        savedOfAnEmptyHeap();
        savedOfAFullHeap();
    }

    private static void count() {
        whereOfCount();
        heapsOfCount();
        kindOfCount();
        planIsNotCounted();
        allStandAllLie();
    }

    private static void look() {
        whatOfLook();
        mostKindsAndHeaps();
        stonesAndHearting();
        frostsSinceItWasBuilt();
        lastCallOfAll();
    }

    /** Two courses, 2 2 2 and 1 4 1, of depth 1 in a width of 2; nothing is left in heap 0, heap 1 is empty. */
    private static StoneWall told() {
        StoneWall wall = Check.withHeap(new int[] {2, 1, 3}, new int[] {1, 1, 2}, new int[] {4, 1, 1});
        wall.heap(5, 0);
        wall.wall(0, 0, 6, 2, 2, 0);
        return wall;
    }

    private static StoneWall planned() {
        StoneWall wall = told();
        Check.due("plan()", wall.plan(), 6);
        return wall;
    }

    private static StoneWall built() {
        StoneWall wall = planned();
        // Places 0, 2, 4 of weight 2; 0 and 5 of weight 1; 1 of weight 4.
        Check.due("build()", wall.build(), 2 * 6 + 5 + 4);
        return wall;
    }

    private static StoneWall slipped() {
        StoneWall wall = built();
        Check.due("frost(50)", wall.frost(50), 4);
        return wall;
    }

    private static StoneWall taken() {
        StoneWall wall = slipped();
        Check.due("take(0)", wall.take(0), 6);
        return wall;
    }

    /** Those in which there is no plan and nothing built. */
    private static StoneWall[] without() {
        StoneWall none = told();
        none.stones(0, 2, 0);
        Check.due("plan(), none", none.plan(), 0);
        return new StoneWall[] {new StoneWall(), told(), none, taken()};
    }

    private static StoneWall[] with() {
        return new StoneWall[] {planned(), built(), slipped()};
    }

    private static void noStones() {
        Check.sentence("Promise 8: IndexOutOfBoundsException: no such stone (there are none)");
        for (StoneWall wall : without()) {
            for (int what = 0; what <= 7; what++) {
                Check.due("stone(0, " + what + ")", Check.thrown(wall, 0, what), Check.INDEX);
            }
        }
    }

    private static void firstAndLastStone() {
        Check.sentence("Promise 8: IndexOutOfBoundsException: no such stone");
        for (StoneWall wall : with()) {
            for (int what = 0; what <= 7; what++) {
                Check.due("stone(0, " + what + ") throws", Check.thrown(wall, 0, what), 0);
                Check.due("stone(5, " + what + ") throws", Check.thrown(wall, 5, what), 0);
                for (int i : new int[] {-1, 6, 144, MIN, MAX}) {
                    Check.due("stone(" + i + ", " + what + ") throws", Check.thrown(wall, i, what), Check.INDEX);
                }
            }
        }
    }

    private static void firstAndLastWhat() {
        Check.sentence("Promise 8: NoSuchElementException: no such what");
        for (StoneWall wall : with()) {
            for (int i = 0; i < 6; i += 5) {
                Check.due("stone(" + i + ", 0) throws", Check.thrown(wall, i, 0), 0);
                Check.due("stone(" + i + ", 7) throws", Check.thrown(wall, i, 7), 0);
                for (int what : new int[] {-1, 8, MIN, MAX}) {
                    Check.due("stone(" + i + ", " + what + ") throws", Check.thrown(wall, i, what), Check.ELEMENT);
                }
            }
        }
    }

    private static void bothWrong() {
        Check.sentence("Promise 8: no such stone, and no such what");
        StoneWall wall = planned();
        Check.due("stone(-1, -1) throws", Check.thrown(wall, -1, -1), Check.INDEX);
        Check.due("stone(6, 8) throws", Check.thrown(wall, 6, 8), Check.INDEX);
    }

    private static void notBuilt() {
        Check.sentence("Promise 8: HOLD (0 if not built), whether it stands, the HEAP it came from (NONE if not built)");
        StoneWall wall = taken();
        Check.due("plan(), after one that was built", wall.plan(), 6);
        for (int i = 0; i < 6; i++) {
            Check.stone(wall, i, 5, 0);
            Check.stone(wall, i, 6, 0);
            Check.stone(wall, i, 7, NONE);
        }
        Check.due("build()", wall.build(), 21);
        for (int i = 0; i < 6; i++) {
            Check.stone(wall, i, 5, 99);
            Check.stone(wall, i, 6, 1);
            Check.stone(wall, i, 7, 0);
        }
    }

    private static void heartingAndThrough() {
        Check.sentence("Promise 8: HEARTING, THROUGH-stone; Term 1: below WIDTH (0 if it is not)");
        for (int width = 1; width <= 4; width++) {
            for (int depth = 1; depth <= Math.min(4, width + 1); depth++) {
                StoneWall wall = Check.withHeap(new int[] {3, depth, 1});
                wall.wall(0, 0, 3, 1, width, 0);
                Check.due("plan(), width " + width + ", depth " + depth, wall.plan(), 1);
                Check.stone(wall, 0, 3, depth < width ? 3 * (width - depth) : 0);
                Check.stone(wall, 0, 4, depth < width ? 0 : 1);
            }
        }
    }

    private static void overNothing() {
        Check.sentence("Promise 9: NONE if there is none (no stones)");
        for (StoneWall wall : without()) {
            Check.due("over(0, 0)", wall.over(0, 0), NONE);
            Check.due("over(1, 5)", wall.over(1, 5), NONE);
        }
    }

    private static void coursesOfOver() {
        Check.sentence("Promise 9: the stone of a COURSE; NONE if there is none (no such COURSE)");
        for (StoneWall wall : with()) {
            Check.due("over(0, 0)", wall.over(0, 0), 0);
            Check.due("over(1, 0)", wall.over(1, 0), 3);
            for (int course : new int[] {-1, 2, 6, MIN, MAX}) {
                Check.due("over(" + course + ", 0)", wall.over(course, 0), NONE);
            }
        }
    }

    private static void placesOfOver() {
        Check.sentence("Promise 9: lies over a place; Term 1: over p .. p + its LENGTH");
        int[][] due = {{NONE, 0, 0, 1, 1, 2, 2, NONE}, {NONE, 3, 4, 4, 4, 4, 5, NONE}};
        for (StoneWall wall : with()) {
            for (int course = 0; course < 2; course++) {
                for (int place = -1; place <= 6; place++) {
                    Check.due("over(" + course + ", " + place + ")", wall.over(course, place), due[course][place + 1]);
                }
                Check.due("over(" + course + ", MIN)", wall.over(course, MIN), NONE);
                Check.due("over(" + course + ", MAX)", wall.over(course, MAX), NONE);
            }
        }
    }

    private static void standingOrNot() {
        Check.sentence("Promise 9: standing or not");
        StoneWall wall = slipped();
        Check.stone(wall, 0, 6, 0);
        Check.due("over(0, 1), at the foot", wall.over(0, 1), 0);
        Check.stone(wall, 1, 6, 1);
        Check.due("over(0, 2), standing", wall.over(0, 2), 1);
    }

    private static void overTheFarEnd() {
        Check.sentence("Promise 9: lies over a place (the place in the WALL, wherever that is)");
        StoneWall wall = Check.withHeap(new int[] {6, 1, 60});
        wall.wall(-100, 100, 24, 1, 1, 0);
        Check.due("plan()", wall.plan(), 4);
        Check.due("over(0, 0)", wall.over(0, 0), 0);
        Check.due("over(0, 23)", wall.over(0, 23), 3);
        Check.due("over(0, 24)", wall.over(0, 24), NONE);
        Check.due("over(0, -100)", wall.over(0, -100), NONE);
    }

    private static void leastWithoutAPlan() {
        Check.sentence("Promise 10: NONE without a PLAN");
        for (StoneWall wall : without()) {
            Check.due("least()", wall.least(), NONE);
        }
        for (StoneWall wall : with()) {
            Check.due("least(), a plan or what was built by it", wall.least(), 21);
        }
    }

    private static void leastOfNoToil() {
        Check.sentence("Promise 10: LEAST (0, which is not NONE)");
        StoneWall wall = Check.withHeap(new int[] {2, 1, 1});
        wall.wall(0, 0, 2, 1, 1, 0);
        wall.plan();
        Check.due("least()", wall.least(), 0);
        Check.due("saved(0, 0)", wall.saved(0, 0), 0);
        Check.due("build()", wall.build(), 0);
    }

    private static void leastOfTheHeapsAsTheyWere() {
        Check.sentence("Term 2: LEAST: from the HEAPS as they were when it was made (they are empty now)");
        StoneWall wall = built();
        for (int k = 0; k < 3; k++) {
            Check.due("count(0, " + k + ")", wall.count(0, k), 0);
        }
        Check.due("least()", wall.least(), 21);
        Check.due("saved(0, 2)", wall.saved(0, 2), 0);
        Check.due("saved(1, 0), one at 5 for place 4", wall.saved(1, 0), 2 * (4 - 1));
        Check.due("take(1)", wall.take(1), 6);
        Check.due("plan()", wall.plan(), 6);
        // From 5: places 0, 2, 4 of weight 2; 0 and 5 of weight 1; 1 of weight 4.
        Check.due("least(), of the heaps as they are now", wall.least(), 2 * (5 + 3 + 1) + 5 + 4 * 4);
    }

    /** Each heap has one stone: all ways take all of them, and the greedy one takes the worst. */
    private static void leastFromTheLastStones() {
        Check.sentence("Term 2: LEAST: the least sum of all ways (with no stone to spare)");
        StoneWall wall = new StoneWall();
        wall.kind(1, 1);
        int[] at = {1, 2, 3, 4, -90};
        for (int h = 0; h < 5; h++) {
            wall.heap(at[h], 0);
            wall.stones(h, 0, 1);
        }
        wall.wall(0, 0, 5, 1, 1, 0);
        Check.due("plan()", wall.plan(), 5);
        Check.due("least()", wall.least(), 90);
        Check.due("saved(0, 0)", wall.saved(0, 0), 90 - 1);
        Check.due("saved(3, 0)", wall.saved(3, 0), 90 - 4);
        Check.due("saved(4, 0)", wall.saved(4, 0), 0);
        Check.due("build()", wall.build(), 4 + 94);
    }

    /** Heap 1 gives to place 0, then to 1, and to 2: what it gave before another heap has to give in its stead. */
    private static void leastByHeapsInEachOthersStead() {
        Check.sentence("Term 2: LEAST: the least sum of all ways (heaps that give in one another's stead)");
        StoneWall wall = new StoneWall();
        wall.kind(1, 1);
        int[] at = {20, 5, 8, -30, 40};
        int[] amounts = {1, 2, 1, 1, 1};
        for (int h = 0; h < 5; h++) {
            wall.heap(at[h], 0);
            wall.stones(h, 0, amounts[h]);
        }
        wall.wall(3, 0, 6, 1, 1, 0);
        Check.due("plan(), at 3 to 8", wall.plan(), 6);
        // In rising order: -30 to 3, 5 to 4 and 5, 8 to 6, 20 to 7, 40 to 8.
        Check.due("least()", wall.least(), 33 + 1 + 0 + 2 + 13 + 32);
        // One more at 5, none from 40: -30 to 3, 5 to 4, 5, 6, 8 to 7, 20 to 8; or none from -30: 5 to 3, 4, 5.
        Check.due("saved(1, 0)", wall.saved(1, 0), 81 - (33 + 1 + 0 + 1 + 1 + 12));
        Check.due("saved(0, 0)", wall.saved(0, 0), 81 - (33 + 1 + 0 + 2 + 13 + 12));
        Check.due("saved(2, 0)", wall.saved(2, 0), 81 - (33 + 1 + 0 + 2 + 1 + 12));
        Check.due("saved(3, 0)", wall.saved(3, 0), 0);
        Check.due("saved(4, 0)", wall.saved(4, 0), 0);
    }

    private static void savedWithoutAPlan() {
        Check.sentence("Promise 11: NONE likewise");
        for (StoneWall wall : without()) {
            Check.due("saved(0, 0)", wall.saved(0, 0), NONE);
        }
        for (StoneWall wall : with()) {
            Check.due("saved(0, 0), a plan or what was built by it", wall.saved(0, 0), 0);
        }
    }

    private static void heapOfSaved() {
        Check.sentence("Promise 11: NONE: no such HEAP");
        Check.range("saved(v, 2)", 0, 1, v -> planned().saved(v, 2), 0, NONE);
        Check.range("saved(v, 2), built", 0, 1, v -> built().saved(v, 2), 0, NONE);
    }

    private static void kindOfSaved() {
        Check.sentence("Promise 11: NONE: no such KIND");
        Check.range("saved(0, v)", 0, 2, v -> planned().saved(0, v), 0, NONE);
        Check.range("saved(0, v), built", 0, 2, v -> built().saved(0, v), 0, NONE);
    }

    private static void nothingSaved() {
        Check.sentence("Promise 11: SAVED (0: the KIND is not in the PLAN, or the HEAP is too far)");
        StoneWall wall = Check.withHeap(new int[] {2, 1, 60}, new int[] {1, 1, 0});
        wall.heap(100, 100);
        wall.wall(0, 1, 2, 1, 1, 0);
        wall.plan();
        Check.due("saved(0, 1), not in the plan", wall.saved(0, 1), 0);
        Check.due("saved(1, 0), too far", wall.saved(1, 0), 0);
        Check.due("saved(0, 0), there is enough", wall.saved(0, 0), 0);
    }

    private static void savedOfAnEmptyHeap() {
        Check.sentence("Term 2: SAVED: if that HEAP had had one more (of none)");
        StoneWall wall = Check.withHeap(new int[] {2, 3, 2});
        wall.heap(10, 10);
        wall.wall(10, 10, 4, 1, 3, 0);
        Check.due("plan()", wall.plan(), 2);
        Check.due("least()", wall.least(), 6 * (20 + 22));
        Check.due("saved(1, 0), the farther of the two", wall.saved(1, 0), 6 * (22 - 2));
        Check.due("count(1, 0), asking changes nothing", wall.count(1, 0), 0);
        Check.due("saved(1, 0) again", wall.saved(1, 0), 6 * (22 - 2));
    }

    /** The nearer heap has sixty of a kind, the wall needs 69: a sixty-first is asked for, though stones() has none. */
    private static void savedOfAFullHeap() {
        Check.sentence("Term 2: SAVED: if that HEAP had had one more (than 60)");
        StoneWall wall = Check.withHeap(new int[] {2, 1, 60}, new int[] {1, 1, 6});
        wall.heap(0, 100);
        wall.stones(1, 0, 60);
        wall.wall(0, 0, 24, 6, 1, 0);
        Check.due("plan(), three times 12 of kind 0, and 11 between two of kind 1", wall.plan(), 75);
        // Places 0, 2 .. 22 and 1, 3 .. 21 of weight 2, and 0 and 23 of weight 1; nine of kind 0 from 100 farther.
        Check.due("least()", wall.least(), 3 * (2 * (132 + 121) + 23) + 9 * 200);
        Check.due("saved(0, 0)", wall.saved(0, 0), 200);
        Check.due("saved(1, 0)", wall.saved(1, 0), 0);
        Check.due("saved(0, 1)", wall.saved(0, 1), 0);
    }

    private static void whereOfCount() {
        Check.sentence("Promise 16: where 0 .. 7; NONE if there is none such");
        for (StoneWall wall : with()) {
            for (int where : new int[] {0, 1, 5, 6, 7}) {
                Check.due("count(" + where + ", 0) is a number", wall.count(where, 0) >= 0, true);
            }
            for (int where : new int[] {-1, 2, 3, 4, 8, MIN, MAX}) {
                Check.due("count(" + where + ", 0)", wall.count(where, 0), NONE);
            }
        }
    }

    private static void heapsOfCount() {
        Check.sentence("Promise 16: where 0 .. 4: in a HEAP; NONE if there is none such");
        StoneWall wall = new StoneWall();
        wall.kind(1, 1);
        for (int heaps = 0; heaps <= 5; heaps++) {
            for (int where = 0; where <= 4; where++) {
                Check.due("count(" + where + ", 0), heaps " + heaps, wall.count(where, 0), where < heaps ? where : NONE);
            }
            Check.due("count(5, 0), heaps " + heaps, wall.count(5, 0), 0);
            wall.heap(0, 0);
            wall.stones(heaps, 0, heaps);
        }
        Check.due("count(7, 0)", wall.count(7, 0), 0 + 1 + 2 + 3 + 4);
    }

    private static void kindOfCount() {
        Check.sentence("Promise 16: of a KIND; NONE if there is none such");
        for (int w : new int[] {0, 5, 6, 7}) {
            Check.due("count(" + w + ", 0), no kinds", new StoneWall().count(w, 0), NONE);
            for (StoneWall wall : with()) {
                Check.due("count(" + w + ", 0) is a number", wall.count(w, 0) >= 0, true);
                Check.due("count(" + w + ", 2) is a number", wall.count(w, 2) >= 0, true);
                for (int kind : new int[] {-1, 3, 7, 8, MIN, MAX}) {
                    Check.due("count(" + w + ", " + kind + ")", wall.count(w, kind), NONE);
                }
            }
        }
    }

    private static void planIsNotCounted() {
        Check.sentence("Promise 16: 7: in all (the PLAN's not counted)");
        StoneWall wall = planned();
        int[] due = {3, 2, 1};
        for (int k = 0; k < 3; k++) {
            Check.due("count(7, " + k + "), planned", wall.count(7, k), due[k]);
            Check.due("count(5, " + k + "), planned", wall.count(5, k), 0);
            Check.due("count(6, " + k + "), planned", wall.count(6, k), 0);
            Check.due("count(7, " + k + "), built", built().count(7, k), due[k]);
            Check.due("count(7, " + k + "), slipped", slipped().count(7, k), due[k]);
            Check.due("count(7, " + k + "), taken", taken().count(7, k), due[k]);
        }
    }

    private static void allStandAllLie() {
        Check.sentence("Promise 16: 5: standing, 6: at the foot (all, none)");
        StoneWall wall = built();
        Check.due("count(5, 0), all stand", wall.count(5, 0), 3);
        Check.due("count(6, 0), all stand", wall.count(6, 0), 0);
        wall.frost(50);
        Check.due("frost(50), the rest", wall.frost(50), 2);
        Check.due("count(5, 0), all lie", wall.count(5, 0), 0);
        Check.due("count(6, 0), all lie", wall.count(6, 0), 3);
        Check.due("look(6)", wall.look(6), 6);
        Check.due("look(3), it is built still", wall.look(3), 1);
        wall.take(0);
        Check.due("count(6, 0), taken", wall.count(6, 0), 0);
        Check.due("look(6)", wall.look(6), 0);
    }

    private static void whatOfLook() {
        Check.sentence("Promise 17: NONE for another what");
        Check.range("look(v) of a new object", 0, 7, v -> new StoneWall().look(v), 0, NONE);
        int[] due = {3, 2, 6, 1, 6, 12, 4, 1};
        StoneWall wall = slipped();
        for (int what = 0; what <= 7; what++) {
            Check.due("look(" + what + ")", wall.look(what), due[what]);
        }
        for (int what : new int[] {-1, 8, MIN, MAX}) {
            Check.due("look(" + what + ")", wall.look(what), NONE);
        }
    }

    private static void mostKindsAndHeaps() {
        Check.sentence("Promise 17: 0 KINDS, 1 HEAPS (all that there can be)");
        StoneWall wall = new StoneWall();
        for (int i = 0; i < 10; i++) {
            wall.kind(1, 1);
            wall.heap(0, 0);
        }
        Check.due("look(0)", wall.look(0), 8);
        Check.due("look(1)", wall.look(1), 5);
    }

    private static void stonesAndHearting() {
        Check.sentence("Promise 17: 2 stones, 3 built, 5 HEARTING of the PLAN (or built), none without");
        for (StoneWall wall : without()) {
            Check.due("look(2)", wall.look(2), 0);
            Check.due("look(3)", wall.look(3), 0);
            Check.due("look(5)", wall.look(5), 0);
        }
        for (StoneWall wall : with()) {
            Check.due("look(2)", wall.look(2), 6);
            Check.due("look(5)", wall.look(5), 12);
        }
        Check.due("look(3), a plan", planned().look(3), 0);
        Check.due("look(3), built", built().look(3), 1);
    }

    private static void frostsSinceItWasBuilt() {
        Check.sentence("Promise 17: 7 FROSTS since it was built");
        StoneWall wall = built();
        Check.due("look(7), none yet", wall.look(7), 0);
        wall.frost(0);
        wall.frost(51);
        wall.frost(-1);
        Check.due("look(7), refused ones are none", wall.look(7), 1);
        wall.frost(50);
        wall.mend();
        Check.due("look(7), mended", wall.look(7), 2);
        wall.take(0);
        Check.due("look(7), taken down", wall.look(7), 0);
        wall.plan();
        wall.frost(1);
        wall.build();
        Check.due("look(7), built anew", wall.look(7), 0);
    }

    private static void lastCallOfAll() {
        Check.sentence("An object is used for at most 512 calls");
        StoneWall wall = new StoneWall();
        wall.kind(2, 1);
        wall.heap(0, 0);
        wall.stones(0, 0, 1);
        wall.wall(0, 0, 2, 1, 1, 0);
        wall.plan();
        wall.build();
        for (int call = 7; call < 512; call++) {
            Check.due("frost(0), call " + call, wall.frost(0), 0);
        }
        Check.due("look(7), call 512", wall.look(7), 505);
    }
}
