import java.io.IOException;
import java.lang.reflect.Constructor;
import java.lang.reflect.Field;
import java.lang.reflect.Method;
import java.lang.reflect.Modifier;
import java.nio.file.Files;
import java.nio.file.Path;
import java.util.Arrays;
import java.util.Set;
import java.util.TreeSet;
import java.util.regex.Matcher;
import java.util.regex.Pattern;

/** The public face of the document, and those rules of LANGUAGE.md that can be seen from the text or the members. */
public final class FaceTest {
    private static final String[] FACE = {
        "int kind(int, int)", "int heap(int, int)", "boolean stones(int, int, int)",
        "boolean wall(int, int, int, int, int, int)", "boolean through(int, int)", "int plan()",
        "int stone(int, int) throws IndexOutOfBoundsException, NoSuchElementException", "int over(int, int)",
        "long least()", "long saved(int, int)", "long build()", "int frost(int)", "int mend()", "int take(int)",
        "int count(int, int)", "int look(int)"};

    private static final String[] FORBIDDEN = {
        "->", "::", "\\bfinally\\b", "\\bcatch\\b", "\\bsynchronized\\b", "\\bassert\\b", "\\bprotected\\b",
        "\\bSystem\\.(?!arraycopy)", "Exact\\b", "\\bpackage\\b", "\\bstatic\\s*\\{", "\\bwhile\\s*\\(true",
        "\\bfor\\s*\\(\\s*;", "\\bdouble\\b|\\bfloat\\b", "\\binstanceof\\b"};

    public static void main(String[] args) throws IOException {
        face();
        classes();
        text(Files.readString(Path.of("src/main/java/StoneWall.java")));
        Check.end();
    }

    private static void face() {
        Class<?> face = StoneWall.class;
        Check.due("public final", face.getModifiers(), Modifier.PUBLIC | Modifier.FINAL);
        Set<String> methods = new TreeSet<>();
        for (Method m : face.getDeclaredMethods()) {
            if (Modifier.isPublic(m.getModifiers())) {
                methods.add(signature(m));
            } else if (!Modifier.isPrivate(m.getModifiers())) {
                Check.fault("neither public nor private: " + m);
            }
        }
        Set<String> due = new TreeSet<>(Arrays.asList(FACE));
        if (!methods.equals(due)) {
            Check.fault("the face is " + methods + ", due is " + due);
        }
        for (Field f : face.getDeclaredFields()) {
            boolean isNone = f.getName().equals("NONE");
            Check.due(f + " is public", Modifier.isPublic(f.getModifiers()), isNone);
            Check.due(f + " is private", Modifier.isPrivate(f.getModifiers()), !isNone);
            noStaticState(f);
        }
        Constructor<?>[] made = face.getDeclaredConstructors();
        Check.due("constructors", made.length, 1);
        Check.due("parameters of the constructor", made[0].getParameterCount(), 0);
        Check.due("NONE", StoneWall.NONE, -1);
    }

    private static String signature(Method m) {
        StringBuilder text = new StringBuilder(m.getReturnType().getSimpleName() + " " + m.getName() + "(");
        for (Class<?> p : m.getParameterTypes()) {
            text.append(text.charAt(text.length() - 1) == '(' ? "" : ", ").append(p.getSimpleName());
        }
        text.append(")");
        String before = " throws ";
        for (Class<?> e : m.getExceptionTypes()) {
            text.append(before).append(e.getSimpleName());
            before = ", ";
        }
        return text.toString();
    }

    private static void classes() {
        Set<String> names = new TreeSet<>();
        for (Method m : StoneWall.class.getDeclaredMethods()) {
            if (Modifier.isPublic(m.getModifiers())) {
                names.add(m.getName());
            }
        }
        Check.due("at most twelve classes", StoneWall.class.getDeclaredClasses().length < 12, true);
        for (Class<?> c : StoneWall.class.getDeclaredClasses()) {
            Check.due(c + " is static", Modifier.isStatic(c.getModifiers()), true);
            Check.due(c + " has at most twenty fields", c.getDeclaredFields().length <= 20, true);
            for (Method m : c.getDeclaredMethods()) {
                Check.due(m + " bears a public name", names.contains(m.getName()), false);
                Check.due(m + " has at most seven parameters", m.getParameterCount() <= 7, true);
            }
            for (Field f : c.getDeclaredFields()) {
                noStaticState(f);
            }
        }
    }

    /** What is static is final and a number: objects have nothing in common that a call could change. */
    private static void noStaticState(Field f) {
        if (Modifier.isStatic(f.getModifiers())) {
            Check.due(f + " is a constant", Modifier.isFinal(f.getModifiers()) && f.getType().isPrimitive(), true);
        }
    }

    private static void text(String source) {
        String code = source.replaceAll("(?s)/\\*.*?\\*/", "").replaceAll("//[^\n]*", "");
        for (String pattern : FORBIDDEN) {
            Matcher found = Pattern.compile(pattern).matcher(code);
            if (found.find()) {
                Check.fault("the program has " + found.group());
            }
        }
        Matcher imports = Pattern.compile("import ([^;]*);").matcher(code);
        while (imports.find()) {
            String name = imports.group(1);
            Check.due("import " + name, name.equals("java.util.Arrays") || name.equals("java.util.NoSuchElementException"), true);
        }
        for (char c : source.toCharArray()) {
            Check.due("a sign of the program", c == '\n' || c >= ' ' && c < 127, true);
        }
        thrown(code);
        lengths(code.split("\n"));
    }

    private static void thrown(String code) {
        Matcher thrown = Pattern.compile("\\bthrow\\b([^;]*);").matcher(code);
        while (thrown.find()) {
            boolean due = thrown.group(1).matches(" new (IndexOutOfBounds|NoSuchElement)Exception\\(\"[a-z ]+\"\\)");
            Check.due("throw" + thrown.group(1), due, true);
        }
    }

    /** A method begins with its head's line and ends with a brace that stands as far in as the head does. */
    private static void lengths(String[] lines) {
        for (int first = 0; first < lines.length; first++) {
            Matcher head = Pattern.compile("( {4}| {8})\\w.*\\) (throws .*)?\\{").matcher(lines[first]);
            if (head.matches()) {
                int last = first;
                while (last < lines.length - 1 && !lines[last].equals(head.group(1) + "}")) {
                    last++;
                }
                Check.due("at most sixty lines:" + lines[first], last - first < 60, true);
            }
        }
    }
}
