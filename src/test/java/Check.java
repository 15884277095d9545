import java.util.ArrayList;
import java.util.List;

/** Compares answers with those that are due, prints the wrong ones and ends a test with its exit code. */
final class Check {
    /** A call of the face, or several. */
    interface Call {
        long run();
    }

    private static final int MOST_PRINTED = 50;

    private static int compared = 0;
    private static final List<String> wrong = new ArrayList<>();

    private Check() {
    }

    static void due(String call, long want, long got) {
        compared++;
        if (got != want) {
            wrong.add(call + " answered " + got + ", due is " + want);
        }
    }

    static void holds(String what, boolean truth) {
        compared++;
        if (!truth) {
            wrong.add(what + " does not hold");
        }
    }

    /** The class itself, not one below it: ArrayIndexOutOfBoundsException is the machine's. */
    static void refused(String call, Class<? extends RuntimeException> want, Call tried) {
        compared++;
        try {
            wrong.add(call + " answered " + tried.run() + ", due is " + want.getSimpleName());
        } catch (RuntimeException e) {
            if (e.getClass() != want) {
                wrong.add(call + " threw " + e + ", due is " + want.getSimpleName());
            }
        }
    }

    static void outOfBounds(String call, Call tried) {
        refused(call, IndexOutOfBoundsException.class, tried);
    }

    static void illegal(String call, Call tried) {
        refused(call, IllegalArgumentException.class, tried);
    }

    static void end() {
        for (int i = 0; i < wrong.size() && i < MOST_PRINTED; i++) {
            System.out.println(wrong.get(i));
        }
        System.out.println(compared + " answers compared, " + wrong.size() + " wrong");
        if (!wrong.isEmpty() || compared == 0) {
            System.exit(1);
        }
    }
}
