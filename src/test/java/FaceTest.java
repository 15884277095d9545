import java.io.IOException;
import java.lang.reflect.Constructor;
import java.lang.reflect.Field;
import java.lang.reflect.Method;
import java.lang.reflect.Modifier;
import java.nio.file.Files;
import java.nio.file.Path;
import java.util.ArrayList;
import java.util.Arrays;
import java.util.List;
import java.util.Map;
import java.util.TreeMap;
import java.util.TreeSet;

/** The public face is the document's, and nothing else of the class can be seen from outside. */
public final class FaceTest {
    private static final String NO_CLASS = "IndexOutOfBoundsException";
    private static final String NO_FORM = "IllegalArgumentException";

    /** How many ints each method takes, and what it throws. */
    private static final String[][] FACE = {
        {"take", "1", NO_FORM},
        {"count", "1", ""},
        {"name", "2", NO_CLASS},
        {"classOf", "3", NO_FORM},
        {"product", "2", NO_CLASS},
        {"inverse", "1", NO_CLASS},
        {"power", "2", NO_CLASS},
        {"order", "1", NO_CLASS},
        {"generator", "1", NO_CLASS},
        {"exponent", "2", NO_CLASS}
    };

    public static void main(String[] args) throws IOException {
        Check.due("modifiers of the class", Modifier.PUBLIC | Modifier.FINAL, ClassGroup.class.getModifiers());
        constructors();
        methods();
        headsAsWritten();
        for (Field field : ClassGroup.class.getDeclaredFields()) {
            Check.holds("private: " + field, Modifier.isPrivate(field.getModifiers()));
            Check.holds("no static state: " + field,
                    !Modifier.isStatic(field.getModifiers()) || Modifier.isFinal(field.getModifiers()));
        }
        for (Class<?> inside : ClassGroup.class.getDeclaredClasses()) {
            Check.holds("static: " + inside, Modifier.isStatic(inside.getModifiers()));
            Check.holds("not public or protected: " + inside,
                    !Modifier.isPublic(inside.getModifiers()) && !Modifier.isProtected(inside.getModifiers()));
        }
        Check.end();
    }

    private static void constructors() {
        Constructor<?>[] all = ClassGroup.class.getDeclaredConstructors();
        Check.due("constructors", 1, all.length);
        Check.holds("public: " + all[0], Modifier.isPublic(all[0].getModifiers()));
        Check.due("its parameters", 0, all[0].getParameterCount());
    }

    private static void methods() {
        Map<String, Method> found = new TreeMap<>();
        for (Method method : ClassGroup.class.getDeclaredMethods()) {
            if (Modifier.isPublic(method.getModifiers())) {
                Check.holds("one alone: " + method, found.put(method.getName(), method) == null);
            } else {
                Check.holds("private: " + method, Modifier.isPrivate(method.getModifiers()));
                Check.holds("no name of the face: " + method, !isOfTheFace(method.getName()));
            }
        }
        Check.holds("the face: " + new TreeSet<>(found.keySet()), found.size() == FACE.length);
        for (String[] row : FACE) {
            Method method = found.get(row[0]);
            Check.holds("there is " + row[0], method != null);
            if (method != null) {
                sameHead(method, Integer.parseInt(row[1]), row[2]);
            }
        }
    }

    /** Word for word, the names of the parameters too. */
    private static void headsAsWritten() throws IOException {
        List<String> due = heads(Path.of("../shared/DOC.md"), ";");
        List<String> written = heads(Path.of("src/main/java/ClassGroup.java"), " {");
        Check.due("heads of the document", FACE.length + 1, due.size());
        Check.holds("the heads " + written + " are the document's, in its order", written.equals(due));
    }

    private static List<String> heads(Path file, String end) throws IOException {
        List<String> found = new ArrayList<>();
        for (String line : Files.readAllLines(file)) {
            if (line.startsWith("    public ") && line.endsWith(end)) {
                found.add(line.substring(0, line.length() - end.length()).trim());
            }
        }
        return found;
    }

    private static boolean isOfTheFace(String name) {
        return Arrays.stream(FACE).anyMatch(row -> row[0].equals(name));
    }

    private static void sameHead(Method method, int parameters, String thrown) {
        Check.holds("answers an int: " + method, method.getReturnType() == int.class);
        Check.holds("of the object: " + method, !Modifier.isStatic(method.getModifiers()));
        Check.due("parameters of " + method, parameters, method.getParameterCount());
        for (Class<?> type : method.getParameterTypes()) {
            Check.holds("int: " + method, type == int.class);
        }
        Class<?>[] exceptions = method.getExceptionTypes();
        Check.holds("throws " + thrown + ": " + method,
                thrown.isEmpty() ? exceptions.length == 0
                        : exceptions.length == 1 && exceptions[0].getSimpleName().equals(thrown));
    }
}
