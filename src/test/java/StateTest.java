import java.lang.management.ManagementFactory;
import java.lang.reflect.Field;
import java.lang.reflect.Modifier;
import java.util.HashMap;
import java.util.List;
import java.util.Map;

/** What stays and what goes: 512 calls, memory of its own, refused calls, a D taken anew after others. */
public final class StateTest {
    private static final int CALLS = 512;
    private static final int[] FEW_CLASSES = {-4, -15, -47, -84, -420, 5, 12, 229, 60};
    /** Before and after D: one class, the most classes, the most of each sign, many generators. */
    private static final int[] OTHERS = {-3, -1036031, 767449, 1048573, -1004640, 1021020, -5460, 5, -1048576};
    private static final int[] GREATEST_ORDERS = {1, 1908, 392, 1, 14, 2, 2, 1, 256};

    private static final Map<Integer, List<String>> DUE = new HashMap<>();

    public static void main(String[] args) {
        for (int d : FEW_CLASSES) {
            DUE.put(d, Answers.due(new Oracle(d)));
        }
        Check.sentence("at most 512 calls after it has been made: each kind of call as the last one",
                StateTest::lastCall);
        Check.sentence("at most 512 calls after it has been made: another D with each", StateTest::lastOfManyTakes);
        Check.sentence("at most 512 calls after it has been made: refused ones are calls too",
                StateTest::lastOfManyRefused);
        Check.sentence("All memory is its own", StateTest::ownMemory);
        Check.sentence("All memory is .. made once", StateTest::madeOnce);
        Check.sentence("nothing changes: after a refused call the answers that stood before it",
                StateTest::nothingChanges);
        Check.sentence("nothing changes: a refused call as the first one", StateTest::nothingChangesAtFirst);
        Check.sentence("D becomes d: taken anew after others", StateTest::takenAnew);
        Check.sentence("D becomes d: the same D once more", StateTest::takenTwice);
        Check.end();
    }

    private static void lastCall() {
        for (int last = 0; last < 10; last++) {
            ClassGroup group = new ClassGroup();
            group.take(-3299);
            for (int n = 1; n < CALLS - 1; n++) {
                anyCall(group, n % 10, n % 27);
            }
            lastCallIsRight(group, last);
        }
    }

    private static long anyCall(ClassGroup group, int kind, int k) {
        switch (kind) {
            case 0:
                return group.take(-3299);
            case 1:
                return group.count(k % 7);
            case 2:
                return group.name(k, k % 3);
            case 3:
                return group.classOf(1, 1, 825);
            case 4:
                return group.product(k, 26 - k);
            case 5:
                return group.inverse(k);
            case 6:
                return group.power(k, 2 * k - 27);
            case 7:
                return group.order(k);
            case 8:
                return group.generator(k % 2);
            default:
                return group.exponent(k, k % 2);
        }
    }

    private static void lastCallIsRight(ClassGroup group, int kind) {
        Oracle oracle = new Oracle(-3299);
        long[] due = {
            27, 27, oracle.names.get(19)[1], 0, oracle.product(19, 7), oracle.inverse(19), oracle.power(19, 11),
            oracle.order(19), 7, oracle.exponents(oracle.generators()).get(19).get(1)
        };
        Check.Call[] calls = {
            () -> group.take(-3299), () -> group.count(1), () -> group.name(19, 1), () -> group.classOf(1, 1, 825),
            () -> group.product(19, 7), () -> group.inverse(19), () -> group.power(19, 11), () -> group.order(19),
            () -> group.generator(1), () -> group.exponent(19, 1)
        };
        Check.due("call " + CALLS + " of kind " + kind, due[kind], calls[kind].run());
    }

    private static void lastOfManyTakes() {
        ClassGroup group = new ClassGroup();
        for (int n = 0; n < CALLS / 2; n++) {
            int d = OTHERS[n % OTHERS.length];
            group.take(d);
            Check.due(d + ": count(4)", GREATEST_ORDERS[n % OTHERS.length], group.count(4));
        }
        ClassGroup takes = new ClassGroup();
        for (int n = 0; n < CALLS - 1; n++) {
            takes.take(-4 * n - 1048576 + 4 * CALLS);
        }
        Check.due("take(-1036031) as the last call", 1908, takes.take(-1036031));
    }

    private static void lastOfManyRefused() {
        ClassGroup group = new ClassGroup();
        group.take(-47);
        Check.Call[] calls = Refusals.illegal(group).values().toArray(new Check.Call[0]);
        for (int n = 0; n < CALLS - 2; n++) {
            Check.illegal("refused call " + n, calls[n % calls.length]);
        }
        Check.due("exponent(2, 0) as the last call", 4, group.exponent(2, 0));
    }

    private static void ownMemory() {
        ClassGroup[] groups = new ClassGroup[FEW_CLASSES.length];
        for (int i = 0; i < groups.length; i++) {
            groups[i] = new ClassGroup();
            groups[i].take(FEW_CLASSES[i]);
        }
        // Each is asked while the others hold their own D, forwards and backwards.
        for (int i = 0; i < groups.length; i++) {
            Answers.compare("object " + i, DUE.get(FEW_CLASSES[i]), groups[i]);
        }
        for (int i = groups.length - 1; i >= 0; i--) {
            Answers.compare("object " + i + " again", DUE.get(FEW_CLASSES[i]), groups[i]);
        }
        for (Field field : ClassGroup.class.getDeclaredFields()) {
            if (!Modifier.isStatic(field.getModifiers()) && !field.getType().isPrimitive()) {
                Check.holds("two objects have two of " + field,
                        valueOf(field, groups[0]) != valueOf(field, groups[1]));
            }
        }
    }

    private static Object valueOf(Field field, ClassGroup group) {
        try {
            field.setAccessible(true);
            return field.get(group);
        } catch (IllegalAccessException e) {
            throw new IllegalStateException(e);
        }
    }

    private static void madeOnce() {
        for (Field field : ClassGroup.class.getDeclaredFields()) {
            Check.holds("a row is made once: " + field,
                    field.getType().isPrimitive() || Modifier.isFinal(field.getModifiers()));
        }
        int[] all = {-4, -47, -1036031, 767449, 1007161, -1004640, 1021020};
        allCalls(new ClassGroup(), all);
        ClassGroup group = new ClassGroup();
        long before = allocated();
        allCalls(group, all);
        // The machine may make something of its own; one row of a call each would be far more.
        Check.holds("calls make no rows", allocated() - before < 4096);
    }

    private static void allCalls(ClassGroup group, int[] discriminants) {
        for (int d : discriminants) {
            int last = group.take(d) - 1;
            for (int what = 0; what < 7; what++) {
                group.count(what);
            }
            group.classOf(group.name(last, 0), group.name(last, 1), group.name(last, 2));
            group.product(last, 0);
            group.inverse(last);
            group.power(last, -77);
            group.order(last);
            for (int i = 0; i < group.count(2); i++) {
                group.exponent(last, i);
                group.generator(i);
            }
        }
    }

    private static long allocated() {
        return ((com.sun.management.ThreadMXBean) ManagementFactory.getThreadMXBean())
                .getCurrentThreadAllocatedBytes();
    }

    private static void nothingChanges() {
        for (int d : FEW_CLASSES) {
            ClassGroup model = taken(d);
            int classes = model.count(1);
            int generators = model.count(2);
            for (String call : Refusals.illegal(model).keySet()) {
                for (boolean asked : new boolean[] {false, true}) {
                    ClassGroup group = asked ? askedAll(d) : taken(d);
                    Check.illegal(d + ": " + call, Refusals.illegal(group).get(call));
                    Answers.compare(d + ": after " + call, DUE.get(d), group);
                }
            }
            for (String call : Refusals.outOfBounds(model, classes, generators).keySet()) {
                for (boolean asked : new boolean[] {false, true}) {
                    ClassGroup group = asked ? askedAll(d) : taken(d);
                    Check.outOfBounds(d + ": " + call, Refusals.outOfBounds(group, classes, generators).get(call));
                    Answers.compare(d + ": after " + call, DUE.get(d), group);
                }
            }
        }
    }

    private static void nothingChangesAtFirst() {
        for (String call : Refusals.illegal(new ClassGroup()).keySet()) {
            ClassGroup group = new ClassGroup();
            Check.illegal(call, Refusals.illegal(group).get(call));
            Answers.compare("after " + call, DUE.get(-4), group);
        }
        for (String call : Refusals.outOfBounds(new ClassGroup(), 1, 0).keySet()) {
            ClassGroup group = new ClassGroup();
            Check.outOfBounds(call, Refusals.outOfBounds(group, 1, 0).get(call));
            Answers.compare("after " + call, DUE.get(-4), group);
        }
    }

    private static void takenAnew() {
        for (int d : FEW_CLASSES) {
            for (int other : OTHERS) {
                for (boolean asked : new boolean[] {false, true}) {
                    ClassGroup group = asked ? askedAll(d) : taken(d);
                    group.take(other);
                    takenAfter(other, d, group);
                }
                ClassGroup group = taken(other);
                group.count(2);
                takenAfter(other, d, group);
            }
        }
    }

    private static void takenAfter(int other, int d, ClassGroup group) {
        Check.due(d + " after " + other, taken(d).count(1), group.take(d));
        Answers.compare(d + " after " + other, DUE.get(d), group);
    }

    private static void takenTwice() {
        for (int d : FEW_CLASSES) {
            ClassGroup group = askedAll(d);
            Check.due("take(" + d + ") once more", taken(d).count(1), group.take(d));
            Answers.compare(d + " taken twice", DUE.get(d), group);
        }
    }

    private static ClassGroup taken(int d) {
        ClassGroup group = new ClassGroup();
        group.take(d);
        return group;
    }

    private static ClassGroup askedAll(int d) {
        ClassGroup group = taken(d);
        Answers.of(group);
        return group;
    }
}
