import java.io.File;
import java.io.IOException;
import java.lang.reflect.InvocationTargetException;
import java.lang.reflect.Method;
import java.nio.file.Files;
import java.nio.file.Path;
import java.util.Arrays;
import java.util.List;
import java.util.Map;
import java.util.Set;
import java.util.TreeMap;
import java.util.TreeSet;
import java.util.regex.Matcher;
import java.util.regex.Pattern;

/** README.md: each call of its examples answers as it says there, and its tables leave nothing out. */
public final class ReadmeTest {
    private static final String FENCE = "```";
    private static final Pattern MADE = Pattern.compile("ClassGroup group = new ClassGroup\\(\\);");
    /** A call, and behind it its answer or what it throws, and perhaps a remark. */
    private static final Pattern CALL = Pattern.compile(
            "group\\.(\\w+)\\(([-\\d, ]+)\\); +// (-?\\d+|throws \\w+)(: .+)?");
    private static final Pattern ROW = Pattern.compile("\\| `(\\w+)\\(([^)]*)\\)` \\| .+ \\| (.+) \\|");

    private static final Map<String, Method> FACE = new TreeMap<>();
    private static final Set<String> ANSWERED = new TreeSet<>();
    private static final Set<String> REFUSED = new TreeSet<>();

    private static ClassGroup group;

    public static void main(String[] args) throws IOException {
        for (Method method : ClassGroup.class.getMethods()) {
            if (method.getDeclaringClass() == ClassGroup.class) {
                FACE.put(method.getName(), method);
            }
        }
        List<String> lines = Files.readAllLines(Path.of("README.md"));
        examples(lines);
        for (Method method : FACE.values()) {
            Check.holds("an example shows an answer of " + method.getName(), ANSWERED.contains(method.getName()));
            Check.holds("an example shows each exception of " + method.getName(),
                    REFUSED.contains(method.getName()) == (method.getExceptionTypes().length > 0));
        }
        tableOfCalls(lines);
        tableOfTests(lines);
        Check.end();
    }

    private static void examples(List<String> lines) {
        boolean inside = false;
        for (String line : lines) {
            if (line.startsWith(FENCE)) {
                inside = !inside;
                group = null;
            } else if (inside && !line.isBlank()) {
                example(line);
            }
        }
        Check.holds("the last example has an end", !inside);
    }

    private static void example(String line) {
        Matcher call = CALL.matcher(line);
        if (MADE.matcher(line).matches()) {
            group = new ClassGroup();
        } else if (group != null && call.matches() && FACE.containsKey(call.group(1))) {
            String got = answerOf(FACE.get(call.group(1)), numbers(call.group(2)));
            Check.holds(line + " answered " + got + ", and so what README.md says", got.equals(call.group(3)));
            (got.startsWith("throws") ? REFUSED : ANSWERED).add(call.group(1));
        } else {
            // A line that is not understood is not tested either.
            Check.holds(line + " is a call with its answer", false);
        }
    }

    private static Object[] numbers(String listed) {
        return Arrays.stream(listed.split(", ")).map(Integer::valueOf).toArray();
    }

    private static String answerOf(Method method, Object[] numbers) {
        if (numbers.length != method.getParameterCount()) {
            return "nothing: there is no such head";
        }
        try {
            return method.invoke(group, numbers).toString();
        } catch (InvocationTargetException e) {
            return "throws " + e.getCause().getClass().getSimpleName();
        } catch (IllegalAccessException e) {
            return "nothing: " + e;
        }
    }

    private static void tableOfCalls(List<String> lines) {
        Set<String> found = new TreeSet<>();
        for (String line : lines) {
            Matcher row = ROW.matcher(line);
            if (row.matches()) {
                Check.holds("one row for " + row.group(1), found.add(row.group(1)));
                compareRow(row.group(1), row.group(2).split(", ").length, row.group(3));
            }
        }
        Check.holds("the table has each call: " + found, found.equals(FACE.keySet()));
    }

    private static void compareRow(String name, int parameters, String refused) {
        Method method = FACE.get(name);
        if (method == null) {
            return;
        }
        Check.due("parameters of " + name + " in the table", method.getParameterCount(), parameters);
        Class<?>[] exceptions = method.getExceptionTypes();
        String due = exceptions.length == 0 ? "never" : exceptions[0].getSimpleName() + ": ";
        Check.holds("the table says of " + name + ": " + due, refused.startsWith(due));
    }

    private static void tableOfTests(List<String> lines) {
        String text = String.join("\n", lines);
        for (String file : new File("src/test/java").list()) {
            if (file.endsWith("Test.java")) {
                String name = file.substring(0, file.length() - ".java".length());
                Check.holds("README.md names " + name,
                        Pattern.compile("\n\\| ([^|]*, )?" + name + "(, [^|]*)? \\|").matcher(text).find());
            }
        }
    }
}
