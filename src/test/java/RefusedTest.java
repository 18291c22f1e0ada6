import java.util.ArrayList;
import java.util.List;
import java.util.function.ToLongFunction;

/** A call that is refused, and one that only asks, changes nothing, in whichever state it is made. */
public final class RefusedTest {
    private static final int MIN = Integer.MIN_VALUE;
    private static final int MAX = Integer.MAX_VALUE;

    private record Call(String name, long due, ToLongFunction<StoneWall> made) {
    }

    public static void main(String[] args) {
        for (Scene scene : Scene.values()) {
            List<Call> calls = new ArrayList<>();
            wrongKinds(calls);
            wrongHeaps(calls);
            wrongStones(calls);
            wrongWalls(calls);
            wrongThroughs(calls);
            wrongFrostsAndTakes(calls);
            wrongQuestions(calls);
            if (scene == Scene.NEW) {
                nothingTold(calls);
            }
            if (scene.isBuilt()) {
                whileBuilt(calls);
            } else {
                whileNotBuilt(calls);
            }
            if (!scene.hasStones()) {
                withoutAPlan(calls);
            }
            for (Call call : calls) {
                changesNothing(scene, call);
            }
        }
        whenFull();
        Check.end();
    }

    private static void changesNothing(Scene scene, Call call) {
        Check.sentence(scene + ", " + call.name);
        StoneWall wall = scene.make();
        Check.due("it", call.made.applyAsLong(wall), call.due);
        StoneWall untouched = scene.make();
        same("all that can be asked", Scene.asked(wall), Scene.asked(untouched));
        same("what comes when one goes on", Scene.goneOn(wall), Scene.goneOn(untouched));
    }

    private static void same(String what, String got, String want) {
        if (!got.equals(want)) {
            Check.fault(what + " is" + got + ", due is" + want);
        }
    }

    private static void none(List<Call> calls, String name, ToLongFunction<StoneWall> made) {
        calls.add(new Call(name, StoneWall.NONE, made));
    }

    private static void no(List<Call> calls, String name, ToLongFunction<StoneWall> made) {
        calls.add(new Call(name, 0, made));
    }

    private static long number(boolean answer) {
        return answer ? 1 : 0;
    }

    private static void wrongKinds(List<Call> calls) {
        for (int v : new int[] {0, 7, MIN, MAX}) {
            none(calls, "kind(" + v + ", 1)", w -> w.kind(v, 1));
        }
        for (int v : new int[] {0, 5, MIN, MAX}) {
            none(calls, "kind(1, " + v + ")", w -> w.kind(1, v));
        }
    }

    private static void wrongHeaps(List<Call> calls) {
        for (int v : new int[] {-101, 101, MIN, MAX}) {
            none(calls, "heap(" + v + ", 0)", w -> w.heap(v, 0));
            none(calls, "heap(0, " + v + ")", w -> w.heap(0, v));
        }
    }

    private static void wrongStones(List<Call> calls) {
        for (int v : new int[] {-1, 61, MIN, MAX}) {
            no(calls, "stones(0, 0, " + v + ")", w -> number(w.stones(0, 0, v)));
        }
        for (int v : new int[] {-1, 3, 4, 5, MIN, MAX}) {
            no(calls, "stones(" + v + ", 0, 9)", w -> number(w.stones(v, 0, 9)));
        }
        for (int v : new int[] {-1, 4, 7, 8, MIN, MAX}) {
            no(calls, "stones(0, " + v + ", 9)", w -> number(w.stones(0, v, 9)));
        }
    }

    private static void wrongWalls(List<Call> calls) {
        int[][] wrong = {{-101, 101}, {-101, 101}, {1, 25}, {0, 7}, {0, 5}, {-1, 2}};
        for (int i = 0; i < wrong.length; i++) {
            for (int v : new int[] {wrong[i][0], wrong[i][1], MIN, MAX}) {
                int[] w = {-3, 4, 4, 1, 1, 0};
                w[i] = v;
                no(calls, "wall" + java.util.Arrays.toString(w),
                    wall -> number(wall.wall(w[0], w[1], w[2], w[3], w[4], w[5])));
            }
        }
    }

    private static void wrongThroughs(List<Call> calls) {
        for (int v : new int[] {-1, 4, MIN, MAX}) {
            no(calls, "through(" + v + ", 0)", w -> number(w.through(v, 0)));
            no(calls, "through(0, " + v + ")", w -> number(w.through(0, v)));
        }
    }

    private static void wrongFrostsAndTakes(List<Call> calls) {
        for (int v : new int[] {-1, 51, MIN, MAX}) {
            none(calls, "frost(" + v + ")", w -> w.frost(v));
        }
        for (int v : new int[] {-1, 3, 4, 5, MIN, MAX}) {
            none(calls, "take(" + v + ")", w -> w.take(v));
        }
    }

    private static void wrongQuestions(List<Call> calls) {
        for (int v : new int[] {-1, 8, MIN, MAX}) {
            none(calls, "look(" + v + ")", w -> w.look(v));
            none(calls, "count(" + v + ", 0)", w -> w.count(v, 0));
            none(calls, "count(0, " + v + ")", w -> w.count(0, v));
            none(calls, "over(" + v + ", 0)", w -> w.over(v, 0));
            none(calls, "over(0, " + v + ")", w -> w.over(0, v));
            none(calls, "saved(" + v + ", 0)", w -> w.saved(v, 0));
            none(calls, "saved(0, " + v + ")", w -> w.saved(0, v));
            calls.add(new Call("stone(" + v + ", 0)", Check.INDEX, w -> Check.thrown(w, v, 0)));
        }
    }

    private static void nothingTold(List<Call> calls) {
        no(calls, "stones(0, 0, 0)", w -> number(w.stones(0, 0, 0)));
        no(calls, "through(0, 0)", w -> number(w.through(0, 0)));
        none(calls, "plan()", StoneWall::plan);
        none(calls, "count(0, 0)", w -> w.count(0, 0));
        none(calls, "count(7, 0)", w -> w.count(7, 0));
    }

    private static void whileBuilt(List<Call> calls) {
        none(calls, "kind(1, 1)", w -> w.kind(1, 1));
        none(calls, "heap(0, 0)", w -> w.heap(0, 0));
        no(calls, "stones(0, 0, 9)", w -> number(w.stones(0, 0, 9)));
        no(calls, "wall(0, 0, 4, 1, 1, 0)", w -> number(w.wall(0, 0, 4, 1, 1, 0)));
        no(calls, "through(0, 0)", w -> number(w.through(0, 0)));
        none(calls, "plan()", StoneWall::plan);
        none(calls, "build()", StoneWall::build);
        calls.add(new Call("stone(0, 8)", Check.ELEMENT, w -> Check.thrown(w, 0, 8)));
    }

    private static void whileNotBuilt(List<Call> calls) {
        none(calls, "frost(0)", w -> w.frost(0));
        none(calls, "frost(50)", w -> w.frost(50));
        none(calls, "mend()", StoneWall::mend);
        none(calls, "take(0)", w -> w.take(0));
    }

    private static void withoutAPlan(List<Call> calls) {
        none(calls, "build()", StoneWall::build);
        none(calls, "least()", StoneWall::least);
        none(calls, "saved(0, 0)", w -> w.saved(0, 0));
        none(calls, "over(0, 0)", w -> w.over(0, 0));
        calls.add(new Call("stone(0, 0)", Check.INDEX, w -> Check.thrown(w, 0, 0)));
        calls.add(new Call("stone(0, 8)", Check.INDEX, w -> Check.thrown(w, 0, 8)));
    }

    /** Eight kinds and five heaps, and a plan, which a ninth kind and a sixth heap leave as it is. */
    private static void whenFull() {
        Check.sentence("full, a ninth kind and a sixth heap");
        StoneWall wall = full();
        Check.due("kind(1, 1)", wall.kind(1, 1), StoneWall.NONE);
        Check.due("heap(0, 0)", wall.heap(0, 0), StoneWall.NONE);
        StoneWall untouched = full();
        same("all that can be asked", Scene.asked(wall), Scene.asked(untouched));
        same("what comes when one goes on", Scene.goneOn(wall), Scene.goneOn(untouched));
    }

    private static StoneWall full() {
        StoneWall wall = Scene.TOLD.make();
        for (int k = 4; k < 8; k++) {
            Check.due("kind(6, 4)", wall.kind(6, 4), k);
        }
        Check.due("heap(7, 7)", wall.heap(7, 7), 3);
        Check.due("heap(8, 8)", wall.heap(8, 8), 4);
        Check.due("plan()", wall.plan(), 7);
        return wall;
    }
}
