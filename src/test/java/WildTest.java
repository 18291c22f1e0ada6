import java.util.Random;

/** Calls with any numbers in any state, compared with the model: nothing but stone() ever throws. */
public final class WildTest {
    private static final int[] POOL = {0, 1, 2, 3, 4, 5, 6, 7, 8, 24, 25, 50, 51, 60, 61, 63, 64, 100, 101, -1, -2, -100,
        -101, 144, 1 << 16, 1 << 24, 1 << 30, Integer.MIN_VALUE, Integer.MAX_VALUE, Integer.MAX_VALUE - 1};

    private static final Random RANDOM = new Random(512);

    public static void main(String[] args) {
        for (int run = 0; run < 400; run++) {
            StoneWall wall = new StoneWall();
            Model model = new Model();
            for (int call = 0; call < 512; call++) {
                any(wall, model);
            }
        }
        Check.end();
    }

    /** Mostly a small number, so that calls are not all refused. */
    private static int draw() {
        return POOL[RANDOM.nextInt(RANDOM.nextInt(4) > 0 ? 7 : POOL.length)];
    }

    private static void any(StoneWall wall, Model model) {
        int a = draw();
        int b = draw();
        int c = draw();
        int d = draw();
        String with = " with " + a + ", " + b + ", " + c + ", " + d;
        switch (RANDOM.nextInt(20)) {
            case 0: Check.due("kind" + with, wall.kind(a, b), model.kind(a, b)); break;
            case 1: Check.due("heap" + with, wall.heap(a, b), model.heap(a, b)); break;
            case 2: Check.due("through" + with, wall.through(a, b), model.through(a, b)); break;
            case 3: Check.due("wall" + with, wall.wall(a, b, c, d, b, a), model.wall(a, b, c, d, b, a)); break;
            case 4: Check.due("wall" + with, wall.wall(a, b, c, 2, d, 0), model.wall(a, b, c, 2, d, 0)); break;
            case 5: Check.due("take" + with, wall.take(a), model.take(a)); break;
            case 6: Check.due("mend", wall.mend(), model.mend()); break;
            case 7: Check.due("frost" + with, wall.frost(a), model.frost(a)); break;
            case 8: case 9: Check.due("build", wall.build(), model.build()); break;
            case 10: case 11: Check.due("plan", wall.plan(), model.plan()); break;
            case 12: Check.due("least", wall.least(), model.least()); break;
            case 13: Check.due("saved" + with, wall.saved(a, b), model.saved(a, b)); break;
            case 14: Check.due("over" + with, wall.over(a, b), model.over(a, b)); break;
            case 15: Check.due("count" + with, wall.count(a, b), model.count(a, b)); break;
            case 16: Check.due("look" + with, wall.look(a), model.look(a)); break;
            case 17: stone(wall, model.stone(a, b), a, b); break;
            default: Check.due("stones" + with, wall.stones(a, b, c), model.stones(a, b, c)); break;
        }
    }

    private static void stone(StoneWall wall, int want, int i, int what) {
        if (want == -100 || want == -200) {
            Check.due("stone throws", Check.thrown(wall, i, what), want == -100 ? Check.INDEX : Check.ELEMENT);
        } else {
            Check.stone(wall, i, what, want);
        }
    }
}
