import java.util.Random;

/** Long runs of any calls: each answers within its bounds or throws what the document says, and no more. */
public final class AnyCallsTest {
    private static final int RUNS = 120;
    private static final int CALLS = 512;
    private static final int[] EDGES = {
        0, 1, -1, 2, -2, 3, 4, 5, 8, 11, 12, -3, -4, -5, 1907, 1908, 4096, 1048573, 1048576, 1048577, -1048576,
        -1048577, 1073741824, -1073741824, 1073741825, -1073741825, Integer.MAX_VALUE, Integer.MIN_VALUE
    };

    private final Random random;
    private final ClassGroup group = new ClassGroup();
    /** What the object must hold. */
    private int d = -4;
    private int classes = 1;

    private AnyCallsTest(long seed) {
        random = new Random(seed);
    }

    public static void main(String[] args) {
        for (int run = 0; run < RUNS; run++) {
            AnyCallsTest test = new AnyCallsTest(run);
            for (int call = 0; call < CALLS; call += 2) {
                test.callAny();
                Check.due("run " + run + ": count(0)", test.d, test.group.count(0));
            }
        }
        Check.end();
    }

    private int any() {
        switch (random.nextInt(4)) {
            case 0:
                return EDGES[random.nextInt(EDGES.length)];
            case 1:
                return random.nextInt();
            case 2:
                return random.nextInt(2097154) - 1048577;
            default:
                return random.nextInt(Math.max(1, classes));
        }
    }

    private boolean isClass(int k) {
        return k >= 0 && k < classes;
    }

    private void callAny() {
        int x = any();
        int y = any();
        switch (random.nextInt(10)) {
            case 0:
                callTake(random.nextInt(3) == 0 ? any() : random.nextInt(4001) - 2000);
                break;
            case 1:
                Check.due("count(" + x + ") of another", x < 0 || x > 5 ? 1 : 0, group.count(x) == -1 ? 1 : 0);
                break;
            case 2:
                int what = random.nextBoolean() ? random.nextInt(3) : y;
                bounded("name", isClass(x) && what >= 0 && what < 3, 1048577, () -> Math.abs(group.name(x, what)));
                break;
            case 3:
                callClassOf(x, y, any());
                break;
            case 4:
                bounded("product", isClass(x) && isClass(y), classes, () -> group.product(x, y));
                break;
            case 5:
                bounded("inverse", isClass(x), classes, () -> group.inverse(x));
                break;
            case 6:
                bounded("power", isClass(x), classes, () -> group.power(x, y));
                break;
            case 7:
                bounded("order", isClass(x), classes + 1, () -> group.order(x));
                break;
            case 8:
                bounded("generator", x >= 0 && x < group.count(2), classes, () -> group.generator(x));
                break;
            default:
                bounded("exponent", isClass(x) && y >= 0 && y < group.count(2), classes, () -> group.exponent(x, y));
        }
    }

    private void callTake(int newD) {
        if (Oracle.canBeTaken(newD)) {
            d = newD;
            classes = group.take(newD);
            Check.due("classes of " + newD, classes, group.count(1));
        } else {
            Check.illegal("take(" + newD + ")", () -> group.take(newD));
        }
    }

    /** A form of D half of the time. */
    private void callClassOf(int a, int b, int c) {
        if (random.nextBoolean()) {
            Check.illegal(d + ": classOf(" + a + ", " + b + ", " + c + ")", () -> refuse(a, b, c));
            return;
        }
        int t = random.nextInt(30000);
        int odd = d & 1;
        long last = ((2L * t + odd) * (2L * t + odd) - d) / 4;
        Check.due(d + ": the principal class with b = " + (2 * t + odd), group.count(3),
                group.classOf(1, 2 * t + odd, (int) last));
    }

    /** Made from three numbers, a form of D is so rare that it is tried only when it is none. */
    private long refuse(int a, int b, int c) {
        if ((long) b * b - 4L * a * c == d) {
            throw new IllegalArgumentException("may be a form");
        }
        return group.classOf(a, b, c);
    }

    private void bounded(String call, boolean there, int bound, Check.Call tried) {
        if (!there) {
            Check.outOfBounds(d + ": " + call, tried);
            return;
        }
        long got = tried.run();
        Check.holds(d + ": " + call + " in its bounds: " + got, got >= 0 && got < bound);
    }
}
