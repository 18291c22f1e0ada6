import java.util.Random;

/** All promises: runs of calls drawn with fixed seeds, each answer compared with the model's. */
public final class ModelTest {
    private static final int RUNS = 3000;

    private final Random random;
    private final StoneWall wall = new StoneWall();
    private final Model model = new Model();
    private final StringBuilder calls = new StringBuilder();

    private ModelTest(long seed) {
        random = new Random(seed);
    }

    public static void main(String[] args) {
        for (int seed = 0; seed < RUNS && Check.faults() == 0; seed++) {
            ModelTest run = new ModelTest(seed);
            run.play(seed % 3);
            if (Check.faults() > 0) {
                System.out.println("seed " + seed + ":" + run.calls);
            }
        }
        Check.end();
    }

    private void play(int roominess) {
        tellKinds(roominess);
        int rounds = 1 + random.nextInt(4);
        for (int round = 0; round < rounds && Check.faults() == 0; round++) {
            fillHeaps(roominess);
            tellWall(roominess);
            if (random.nextInt(3) > 0) {
                through(random.nextInt(66) - 1, random.nextInt(5));
            }
            plan();
            compareState();
            for (int i = random.nextInt(3); i > 0; i--) {
                anyCall();
            }
            build();
            for (int i = random.nextInt(8); i > 0; i--) {
                disturb();
                compareState();
            }
            take(random.nextInt(6));
            anyCall();
            compareState();
        }
    }

    private int upTo(int high) {
        return 1 + random.nextInt(high);
    }

    private void tellKinds(int roominess) {
        int kinds = upTo(9);
        for (int i = 0; i < kinds; i++) {
            kind(random.nextInt(10) == 0 ? random.nextInt(9) - 1 : upTo(roominess == 0 ? 6 : 3), upTo(4));
        }
        int heaps = upTo(6);
        int spread = roominess == 0 ? 110 : 15;
        for (int i = 0; i < heaps; i++) {
            heap(random.nextInt(2 * spread + 1) - spread, random.nextInt(2 * spread + 1) - spread);
        }
    }

    private void fillHeaps(int roominess) {
        for (int h = 0; h < 5; h++) {
            for (int k = 0; k < 8; k++) {
                if (random.nextInt(4) > 0) {
                    stones(h, k, random.nextInt(roominess == 2 ? 62 : 6));
                }
            }
        }
    }

    private void tellWall(int roominess) {
        int x = random.nextInt(21) - 10;
        int y = random.nextInt(21) - 10;
        int length = roominess == 2 ? upTo(25) : 1 + upTo(10);
        wallAt(new int[] {x, y, length, upTo(6), upTo(4), random.nextInt(2)});
    }

    private void disturb() {
        switch (random.nextInt(6)) {
            case 0: mend(); break;
            case 1: anyCall(); break;
            default: frost(random.nextInt(4) == 0 ? random.nextInt(53) - 1 : random.nextInt(20)); break;
        }
    }

    private void anyCall() {
        switch (random.nextInt(12)) {
            case 0: kind(random.nextInt(8), random.nextInt(6)); break;
            case 1: heap(random.nextInt(205) - 102, random.nextInt(205) - 102); break;
            case 2: stones(random.nextInt(6), random.nextInt(9), random.nextInt(63) - 1); break;
            case 3: tellWall(random.nextInt(3)); break;
            case 4: through(random.nextInt(66) - 1, random.nextInt(6) - 1); break;
            case 5: plan(); break;
            case 6: build(); break;
            case 7: frost(random.nextInt(54) - 1); break;
            case 8: mend(); break;
            case 9: take(random.nextInt(7) - 1); break;
            default: break;
        }
    }

    private void due(String call, long got, long want) {
        calls.append(' ').append(call).append('=').append(want);
        Check.due(call, got, want);
    }

    private void kind(int length, int depth) {
        due("kind(" + length + ", " + depth + ")", wall.kind(length, depth), model.kind(length, depth));
    }

    private void heap(int x, int y) {
        due("heap(" + x + ", " + y + ")", wall.heap(x, y), model.heap(x, y));
    }

    private void stones(int h, int k, int n) {
        due("stones(" + h + ", " + k + ", " + n + ")", wall.stones(h, k, n) ? 1 : 0, model.stones(h, k, n) ? 1 : 0);
    }

    private void wallAt(int[] w) {
        boolean got = wall.wall(w[0], w[1], w[2], w[3], w[4], w[5]);
        boolean want = model.wall(w[0], w[1], w[2], w[3], w[4], w[5]);
        due("wall" + java.util.Arrays.toString(w), got ? 1 : 0, want ? 1 : 0);
    }

    private void through(int bits, int n) {
        due("through(" + bits + ", " + n + ")", wall.through(bits, n) ? 1 : 0, model.through(bits, n) ? 1 : 0);
    }

    private void plan() {
        due("plan()", wall.plan(), model.plan());
    }

    private void build() {
        due("build()", wall.build(), model.build());
    }

    private void frost(int n) {
        due("frost(" + n + ")", wall.frost(n), model.frost(n));
    }

    private void mend() {
        due("mend()", wall.mend(), model.mend());
    }

    private void take(int h) {
        due("take(" + h + ")", wall.take(h), model.take(h));
    }

    private void compareState() {
        for (int what = -1; what <= 8; what++) {
            Check.due("look(" + what + ")", wall.look(what), model.look(what));
        }
        for (int k = -1; k <= 8; k++) {
            for (int where = -1; where <= 8; where++) {
                Check.due("count(" + where + ", " + k + ")", wall.count(where, k), model.count(where, k));
            }
        }
        for (int i = -1; i <= model.look(2); i++) {
            for (int what = -1; what <= 8; what++) {
                compareStone(i, what);
            }
        }
        for (int course = -1; course <= 6; course++) {
            for (int place = -1; place <= 24; place++) {
                Check.due("over(" + course + ", " + place + ")", wall.over(course, place), model.over(course, place));
            }
        }
        compareToil();
    }

    private void compareStone(int i, int what) {
        int want = model.stone(i, what);
        int thrown = Check.thrown(wall, i, what);
        Check.due("stone(" + i + ", " + what + ") throws", thrown, want == -100 ? 1 : want == -200 ? 2 : 0);
        if (thrown == 0) {
            Check.due("stone(" + i + ", " + what + ")", wall.stone(i, what), want);
        }
    }

    private void compareToil() {
        Check.due("least()", wall.least(), model.least());
        for (int i = 0; i < 3; i++) {
            int h = random.nextInt(7) - 1;
            int k = random.nextInt(10) - 1;
            Check.due("saved(" + h + ", " + k + ")", wall.saved(h, k), model.saved(h, k));
        }
    }
}
