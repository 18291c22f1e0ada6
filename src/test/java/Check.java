import java.util.function.IntToLongFunction;

/** What the tests share: each call whose answer is not the one that is due is printed and counted. */
final class Check {
    static final int INDEX = 1;
    static final int ELEMENT = 2;

    private static int wrong = 0;
    private static String sentence = "";

    private Check() {
    }

    /** The sentence of the document that the calls from here on test; wrong answers are printed with it. */
    static void sentence(String text) {
        sentence = "[" + text + "] ";
    }

    static void due(String call, long got, long want) {
        if (got != want) {
            fault(call + " answered " + got + ", due is " + want);
        }
    }

    static void due(String call, boolean got, boolean want) {
        due(call, got ? 1 : 0, want ? 1 : 0);
    }

    static void fault(String text) {
        wrong++;
        System.out.println(sentence + text);
    }

    static int faults() {
        return wrong;
    }

    /** The last values that are taken and the first that are refused on either side; answer makes a new object each. */
    static void range(String call, int low, int high, IntToLongFunction answer, long taken, long refused) {
        for (int v : new int[] {low, high}) {
            due(call + ", v = " + v, answer.applyAsLong(v), taken);
        }
        for (int v : new int[] {low - 1, high + 1, Integer.MIN_VALUE, Integer.MAX_VALUE}) {
            due(call + ", v = " + v, answer.applyAsLong(v), refused);
        }
    }

    /** What stone(i, what) throws: INDEX, ELEMENT, or 0 if nothing. */
    static int thrown(StoneWall wall, int i, int what) {
        try {
            wall.stone(i, what);
            return 0;
        } catch (IndexOutOfBoundsException e) {
            return INDEX;
        } catch (java.util.NoSuchElementException e) {
            return ELEMENT;
        }
    }

    static void stone(StoneWall wall, int i, int what, int want) {
        String call = "stone(" + i + ", " + what + ")";
        int thrown = thrown(wall, i, what);
        due(call + " throws", thrown, 0);
        if (thrown == 0) {
            due(call, wall.stone(i, what), want);
        }
    }

    /** The kinds of the plan's stones, one digit each, as they lie. */
    static void kinds(StoneWall wall, String want) {
        StringBuilder got = new StringBuilder();
        for (int i = 0; i < wall.look(2); i++) {
            got.append(wall.stone(i, 0));
        }
        if (!got.toString().equals(want)) {
            fault("the plan has kinds " + got + ", due is " + want);
        }
    }

    /** A wall of one heap at 0, 0; each row of kinds is length, depth, how many. */
    static StoneWall withHeap(int[]... kinds) {
        StoneWall wall = new StoneWall();
        wall.heap(0, 0);
        for (int k = 0; k < kinds.length; k++) {
            due("kind", wall.kind(kinds[k][0], kinds[k][1]), k);
            due("stones", wall.stones(0, k, kinds[k][2]), true);
        }
        return wall;
    }

    static void end() {
        System.out.println(wrong == 0 ? "all answers are as due" : wrong + " answers are not as due");
        if (wrong != 0) {
            System.exit(1);
        }
    }
}
