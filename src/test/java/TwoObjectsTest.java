import java.util.ArrayList;
import java.util.List;

/** Promise 1: what is told to one object is not told to another, however their calls are mixed. */
public final class TwoObjectsTest {
    private interface Call {
        long on(StoneWall wall);
    }

    public static void main(String[] args) {
        List<Call> one = longWall();
        List<Call> other = smallWall();
        String oneAlone = answers(new StoneWall(), one);
        String otherAlone = answers(new StoneWall(), other);
        Check.due("the long wall is built", oneAlone.contains(" look 9 look 1 "), true);
        Check.due("the small wall is built", otherAlone.contains(" look 5 look 1 "), true);
        mixed(one, other, oneAlone, otherAlone);
        mixed(other, one, otherAlone, oneAlone);
        Check.end();
    }

    private static List<Call> longWall() {
        List<Call> calls = new ArrayList<>();
        calls.add(w -> w.kind(2, 1));
        calls.add(w -> w.kind(3, 2));
        calls.add(w -> w.heap(-20, 7));
        calls.add(w -> w.heap(30, -4));
        calls.add(w -> w.stones(0, 0, 4) ? 1 : 0);
        calls.add(w -> w.stones(1, 0, 9) ? 1 : 0);
        calls.add(w -> w.stones(1, 1, 7) ? 1 : 0);
        calls.add(w -> w.wall(5, 6, 12, 2, 2, 1) ? 1 : 0);
        calls.add(w -> w.through(1, 3) ? 1 : 0);
        calls.add(StoneWall::plan);
        calls.add(StoneWall::build);
        calls.add(w -> w.frost(30));
        calls.add(w -> w.frost(20));
        calls.add(StoneWall::mend);
        calls.add(w -> w.frost(9));
        calls.add(w -> w.take(1));
        calls.add(StoneWall::plan);
        return calls;
    }

    private static List<Call> smallWall() {
        List<Call> calls = new ArrayList<>();
        calls.add(w -> w.kind(2, 1));
        calls.add(w -> w.kind(1, 3));
        calls.add(w -> w.heap(1, 1));
        calls.add(w -> w.heap(2, 2));
        calls.add(w -> w.stones(0, 0, 7) ? 1 : 0);
        calls.add(w -> w.stones(1, 0, 1) ? 1 : 0);
        calls.add(w -> w.stones(0, 1, 5) ? 1 : 0);
        calls.add(w -> w.wall(0, 0, 4, 2, 2, 0) ? 1 : 0);
        calls.add(w -> w.through(1, 1) ? 1 : 0);
        calls.add(StoneWall::plan);
        calls.add(StoneWall::build);
        calls.add(w -> w.frost(1));
        calls.add(w -> w.frost(49));
        calls.add(w -> w.frost(3));
        calls.add(StoneWall::mend);
        calls.add(w -> w.take(0));
        calls.add(w -> w.heap(50, 50));
        return calls;
    }

    private static String answers(StoneWall wall, List<Call> calls) {
        StringBuilder text = new StringBuilder();
        for (Call call : calls) {
            step(wall, call, text);
        }
        return text.append(Scene.asked(wall)).toString();
    }

    /** One call, and a few answers after it: an object has no more than 512 calls in all. */
    private static void step(StoneWall wall, Call call, StringBuilder text) {
        text.append(" call ").append(call.on(wall));
        for (int what = 2; what <= 7; what++) {
            text.append(" look ").append(wall.look(what));
        }
        text.append(" count ").append(wall.count(0, 0)).append(' ').append(wall.count(5, 0));
        text.append(" least ").append(wall.least()).append(" saved ").append(wall.saved(0, 0));
        for (int i = 0; i < Math.min(2, wall.look(2)); i++) {
            text.append(" stone ").append(wall.stone(i, 0)).append(' ').append(wall.stone(i, 2));
            text.append(' ').append(wall.stone(i, 5)).append(' ').append(wall.stone(i, 7));
        }
    }

    private static void mixed(List<Call> first, List<Call> second, String firstAlone, String secondAlone) {
        StoneWall one = new StoneWall();
        StoneWall other = new StoneWall();
        StringBuilder oneText = new StringBuilder();
        StringBuilder otherText = new StringBuilder();
        for (int i = 0; i < first.size(); i++) {
            step(one, first.get(i), oneText);
            step(other, second.get(i), otherText);
        }
        oneText.append(Scene.asked(one));
        otherText.append(Scene.asked(other));
        Check.due("the first answers as it does alone", oneText.toString().equals(firstAlone), true);
        Check.due("the second answers as it does alone", otherText.toString().equals(secondAlone), true);
    }
}
