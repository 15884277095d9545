import java.util.ArrayList;
import java.util.List;

/** Compares answers with those that are due, prints the wrong ones and ends a test with its exit code. */
final class Check {
    /** A call of the face, or several. */
    interface Call {
        long run();
    }

    private static final int MOST_PRINTED = 1000;

    private static int compared = 0;
    private static String sentence = "";
    private static final List<String> wrong = new ArrayList<>();

    private Check() {
    }

    /** A test that looks at these words of the document: what goes wrong in it is printed with them. */
    static void sentence(String words, Runnable test) {
        sentence = words;
        int before = compared;
        try {
            test.run();
        } catch (RuntimeException e) {
            tell("ended by " + e);
        }
        if (compared == before) {
            tell("nothing was compared");
        }
        sentence = "";
    }

    static void due(String call, long want, long got) {
        compared++;
        if (got != want) {
            tell(call + " answered " + got + ", due is " + want);
        }
    }

    static void holds(String what, boolean truth) {
        compared++;
        if (!truth) {
            tell(what + " does not hold");
        }
    }

    /** The class itself, not one below it: ArrayIndexOutOfBoundsException is the machine's. */
    static void refused(String call, Class<? extends RuntimeException> want, Call tried) {
        compared++;
        try {
            tell(call + " answered " + tried.run() + ", due is " + want.getSimpleName());
        } catch (RuntimeException e) {
            if (e.getClass() != want) {
                tell(call + " threw " + e + ", due is " + want.getSimpleName());
            }
        }
    }

    static void outOfBounds(String call, Call tried) {
        refused(call, IndexOutOfBoundsException.class, tried);
    }

    static void illegal(String call, Call tried) {
        refused(call, IllegalArgumentException.class, tried);
    }

    static void end() {
        for (int i = 0; i < wrong.size() && i < MOST_PRINTED; i++) {
            System.out.println(wrong.get(i));
        }
        System.out.println(compared + " answers compared, " + wrong.size() + " wrong");
        if (!wrong.isEmpty() || compared == 0) {
            System.exit(1);
        }
    }

    private static void tell(String what) {
        wrong.add(sentence.isEmpty() ? what : "[" + sentence + "] " + what);
    }
}
