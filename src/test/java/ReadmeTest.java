import java.io.IOException;
import java.lang.reflect.Method;
import java.lang.reflect.Modifier;
import java.nio.file.Files;
import java.nio.file.Path;
import java.util.Arrays;
import java.util.List;
import java.util.Set;
import java.util.TreeSet;
import java.util.regex.Matcher;
import java.util.regex.Pattern;

/**
 * Makes the calls that README.md shows and compares their answers with those it shows; run from the project's root.
 * A line of an example that is not understood is a fault too, so that none goes by unread.
 */
public final class ReadmeTest {
    private static final Path README = Path.of("README.md");
    private static final Path TESTS = Path.of("src/test/java");
    private static final int NO_ROUTER = 7;
    private static final Pattern NEW_OBJECT = Pattern.compile("LabelNet net = new LabelNet\\(\\);( +// .+)?");
    private static final Pattern CALL = Pattern.compile("net\\.(\\w+)\\(([^()]+)\\); +// (true|false|NONE|-?\\d+)(: .+)?");
    private static final Pattern ROW = Pattern.compile("\\| `(\\w+)\\(([^()]+)\\)` \\|.*\\| `(true|false|NONE|\\d+)` \\|");

    private static int wrong = 0;

    public static void main(String[] args) throws IOException, ReflectiveOperationException {
        List<String> lines = Files.readAllLines(README);
        Set<String> inExamples = checkExamples(lines);
        Set<String> inTable = checkTable(lines);
        for (String name : publicMethods()) {
            check(inExamples.contains(name), "no example calls " + name);
            check(inTable.contains(name), "no row of the table is for " + name);
        }
        checkNone(lines);
        checkNamesOfTests(lines);
        System.out.println(wrong == 0 ? "README.md is as due" : wrong + " places of README.md are not as due");
        if (wrong != 0) {
            System.exit(1);
        }
    }

    private static void check(boolean holds, String fault) {
        if (!holds) {
            wrong++;
            System.out.println(fault);
        }
    }

    private static Set<String> publicMethods() {
        Set<String> names = new TreeSet<>();
        for (Method method : LabelNet.class.getDeclaredMethods()) {
            if (Modifier.isPublic(method.getModifiers())) {
                names.add(method.getName());
            }
        }
        return names;
    }

    /** Answers the names of the methods that the examples call. */
    private static Set<String> checkExamples(List<String> lines) throws ReflectiveOperationException {
        Set<String> called = new TreeSet<>();
        LabelNet net = null;
        boolean inExample = false;
        for (int i = 0; i < lines.size(); i++) {
            String line = lines.get(i);
            Matcher call = CALL.matcher(line);
            if (line.startsWith("```")) {
                inExample = line.equals("```java");
                // An example stands for itself: none goes on with the object of another.
                net = null;
            } else if (inExample && NEW_OBJECT.matcher(line).matches()) {
                net = new LabelNet();
            } else if (inExample && net != null && call.matches()) {
                called.add(call.group(1));
                compare("line " + (i + 1), net, call.group(1), call.group(2).split(", "), call.group(3));
            } else if (inExample) {
                check(line.isEmpty(), "line " + (i + 1) + " is not understood: " + line);
            }
        }
        return called;
    }

    /** Answers the names of the methods that have a row. */
    private static Set<String> checkTable(List<String> lines) throws ReflectiveOperationException {
        Set<String> named = new TreeSet<>();
        for (int i = 0; i < lines.size(); i++) {
            Matcher row = ROW.matcher(lines.get(i));
            if (row.matches()) {
                check(named.add(row.group(1)), "line " + (i + 1) + ": a second row for " + row.group(1));
                String[] arguments = row.group(2).split(", ");
                for (int at = 0; at < arguments.length; at++) {
                    arguments[at] = arguments[at].equals("up") ? "true" : String.valueOf(NO_ROUTER);
                }
                compare("line " + (i + 1), new LabelNet(), row.group(1), arguments, row.group(3));
            } else {
                check(!lines.get(i).startsWith("| `"), "line " + (i + 1) + " is not understood: " + lines.get(i));
            }
        }
        return named;
    }

    private static void compare(String place, LabelNet net, String name, String[] arguments, String shown)
            throws ReflectiveOperationException {
        Class<?>[] types = new Class<?>[arguments.length];
        Object[] values = new Object[arguments.length];
        for (int i = 0; i < arguments.length; i++) {
            boolean truth = arguments[i].equals("true") || arguments[i].equals("false");
            types[i] = truth ? boolean.class : int.class;
            values[i] = truth ? (Object) Boolean.valueOf(arguments[i]) : (Object) Integer.valueOf(arguments[i]);
        }
        Object got = LabelNet.class.getMethod(name, types).invoke(net, values);
        String due = shown.equals("NONE") ? String.valueOf(LabelNet.NONE) : shown;
        check(got.toString().equals(due),
            place + ": " + name + Arrays.toString(values) + " answers " + got + ", README.md shows " + shown);
    }

    private static void checkNone(List<String> lines) {
        String text = String.join("\n", lines);
        check(text.contains("`LabelNet.NONE` is " + LabelNet.NONE + "."), "the number that NONE is does not stand there");
    }

    private static void checkNamesOfTests(List<String> lines) throws IOException {
        try (var files = Files.list(TESTS)) {
            for (Path file : files.sorted().toList()) {
                String named = "- `" + TESTS + "/" + file.getFileName() + "`: ";
                check(lines.stream().anyMatch(line -> line.startsWith(named)), "no line is for the test " + file);
            }
        }
    }
}
