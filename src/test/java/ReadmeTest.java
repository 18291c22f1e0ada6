import java.io.IOException;
import java.lang.reflect.Method;
import java.nio.file.Files;
import java.nio.file.Path;
import java.util.HashMap;
import java.util.Map;
import java.util.regex.Matcher;
import java.util.regex.Pattern;

/** The calls in README.md answer what stands behind them there, and its table names every call of the face. */
public final class ReadmeTest {
    private static final Pattern BLOCK = Pattern.compile("```java\n(.*?)```", Pattern.DOTALL);
    private static final Pattern LINE =
        Pattern.compile("(?:int (\\w+) = )?wall\\.(\\w+)\\((.*)\\); +// (-?\\d+|true|false): .*");

    private final StoneWall wall = new StoneWall();
    private final Map<String, Integer> named = new HashMap<>();

    public static void main(String[] args) throws IOException, ReflectiveOperationException {
        String text = Files.readString(Path.of("README.md"));
        Matcher block = BLOCK.matcher(text);
        if (!block.find()) {
            Check.fault("README.md has no calls");
        } else {
            new ReadmeTest().make(block.group(1));
        }
        table(text);
        Check.end();
    }

    private void make(String calls) throws ReflectiveOperationException {
        for (String line : calls.split("\n")) {
            Matcher call = LINE.matcher(line);
            if (call.matches()) {
                answer(call);
            } else if (!line.equals("StoneWall wall = new StoneWall();")) {
                Check.fault("no call with its answer: " + line);
            }
        }
    }

    private void answer(Matcher call) throws ReflectiveOperationException {
        String[] words = call.group(3).isEmpty() ? new String[0] : call.group(3).split(", ");
        Object[] values = new Object[words.length];
        for (int i = 0; i < words.length; i++) {
            values[i] = named.containsKey(words[i]) ? named.get(words[i]) : Integer.valueOf(words[i]);
        }
        Object got = method(call.group(2)).invoke(wall, values);
        if (!got.toString().equals(call.group(4))) {
            Check.fault(call.group(2) + "(" + call.group(3) + ") answered " + got + ", README.md has " + call.group(4));
        }
        if (call.group(1) != null) {
            named.put(call.group(1), (Integer) got);
        }
    }

    private static Method method(String name) {
        for (Method m : StoneWall.class.getDeclaredMethods()) {
            if (m.getName().equals(name)) {
                return m;
            }
        }
        throw new IllegalArgumentException("README.md calls " + name);
    }

    private static void table(String text) {
        for (Method m : StoneWall.class.getMethods()) {
            if (m.getDeclaringClass() == StoneWall.class) {
                boolean told = text.contains("\n| `" + m.getName() + "(");
                Check.due(m.getName() + " is in the table of README.md", told, true);
            }
        }
    }
}
