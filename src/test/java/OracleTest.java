import java.util.List;
import java.util.Map;
import java.util.Random;

/** Every method of the class against the document's words, on all small D and on some of each larger kind. */
public final class OracleTest {
    /** Several generators, generators of odd order, D = f f times a smaller one, units of norm 1 and -1. */
    private static final int[] CHOSEN = {
        -3299, -3896, -4027, -5460, -2379, -3315, -6000, -9748, -4096, -3888, -11199,
        -1056, -1140, -10168, -10584, -11160, -12451, -17408,
        1020, 1025, 1129, 1596, 1785, 2021, 2024, 3137, 4097, 5460, 6885, 7057, 8761, 9996
    };

    public static void main(String[] args) {
        Random random = new Random(20261115);
        for (int d = -1000; d <= 1400; d++) {
            compareTaking(d);
            if (Oracle.canBeTaken(d)) {
                compareAll(d, random);
            }
        }
        for (int d : CHOSEN) {
            compareAll(d, random);
        }
        for (int d = 1047000; d <= 1048600; d++) {
            compareTaking(d);
            compareTaking(-d);
        }
        Check.end();
    }

    private static void compareTaking(int d) {
        if (Oracle.canBeTaken(d)) {
            ClassGroup group = new ClassGroup();
            int classes = group.take(d);
            Check.due("take(" + d + "), then count(0)", d, group.count(0));
            Check.due("take(" + d + "), then count(1)", classes, group.count(1));
        } else {
            ClassGroup group = new ClassGroup();
            Check.illegal("take(" + d + ")", () -> group.take(d));
            Check.due("take(" + d + "), then count(0)", -4, group.count(0));
        }
    }

    private static void compareAll(int d, Random random) {
        Oracle oracle = new Oracle(d);
        Renewed group = new Renewed(d);
        compareCounts(oracle, group);
        compareNames(oracle, group);
        compareForms(oracle, group, random);
        compareProducts(oracle, group);
        comparePowers(oracle, group);
        compareGenerators(oracle, group);
    }

    private static void compareCounts(Oracle oracle, Renewed group) {
        String of = oracle.d + ": count";
        Check.due(oracle.d + ": take", oracle.classes(), new ClassGroup().take(oracle.d));
        Check.due(of + "(0)", oracle.d, group.now().count(0));
        Check.due(of + "(1)", oracle.classes(), group.now().count(1));
        Check.due(of + "(3)", oracle.principal(), group.now().count(3));
        Check.due(of + "(5)", oracle.reducedForms, group.now().count(5));
    }

    private static void compareNames(Oracle oracle, Renewed group) {
        for (int k = 0; k < oracle.classes(); k++) {
            for (int what = 0; what < 3; what++) {
                Check.due(oracle.d + ": name(" + k + ", " + what + ")",
                        oracle.names.get(k)[what], group.now().name(k, what));
            }
        }
    }

    private static void compareForms(Oracle oracle, Renewed group, Random random) {
        for (long[] f : oracle.forms) {
            long[] g = changed(f, random);
            int want = oracle.classOf(f[0], f[1], f[2]);
            compareForm(oracle.d, f, want, group);
            compareForm(oracle.d, g, want, group);
        }
    }

    private static void compareForm(int d, long[] f, int want, Renewed group) {
        Check.due(d + ": classOf(" + f[0] + ", " + f[1] + ", " + f[2] + ")",
                want, group.now().classOf((int) f[0], (int) f[1], (int) f[2]));
    }

    /** Another form of f's class, as far away as the bounds of the coefficients let it be. */
    private static long[] changed(long[] f, Random random) {
        long[] g = f;
        for (int n = 0; n < 40; n++) {
            long t = random.nextInt(41) - 20;
            long[] next = {g[0], g[1] + 2 * t * g[0], g[0] * t * t + g[1] * t + g[2]};
            if (Math.abs(next[1]) > 1073741824 || Math.abs(next[2]) > 1073741824) {
                return g;
            }
            g = new long[] {next[2], -next[1], next[0]};
        }
        return g;
    }

    private static void compareProducts(Oracle oracle, Renewed group) {
        for (int j = 0; j < oracle.classes(); j++) {
            Check.due(oracle.d + ": inverse(" + j + ")", oracle.inverse(j), group.now().inverse(j));
            for (int k = 0; k < oracle.classes(); k++) {
                Check.due(oracle.d + ": product(" + j + ", " + k + ")",
                        oracle.product(j, k), group.now().product(j, k));
            }
        }
    }

    private static void comparePowers(Oracle oracle, Renewed group) {
        int greatest = 0;
        for (int k = 0; k < oracle.classes(); k++) {
            int order = oracle.order(k);
            greatest = Math.max(greatest, order);
            Check.due(oracle.d + ": order(" + k + ")", order, group.now().order(k));
            for (int n = -9; n <= 9; n++) {
                Check.due(oracle.d + ": power(" + k + ", " + n + ")",
                        oracle.power(k, n), group.now().power(k, n));
            }
            for (int n : new int[] {Integer.MIN_VALUE, Integer.MIN_VALUE + 1, Integer.MAX_VALUE, 1000003}) {
                Check.due(oracle.d + ": power(" + k + ", " + n + ")",
                        oracle.power(k, n % order), group.now().power(k, n));
            }
        }
        Check.due(oracle.d + ": count(4)", greatest, group.now().count(4));
    }

    private static void compareGenerators(Oracle oracle, Renewed group) {
        List<Integer> generators = oracle.generators();
        Map<Integer, List<Integer>> exponents = oracle.exponents(generators);
        Check.due(oracle.d + ": classes with exponents", oracle.classes(), exponents.size());
        Check.due(oracle.d + ": count(2)", generators.size(), group.now().count(2));
        for (int i = 0; i < generators.size(); i++) {
            Check.due(oracle.d + ": generator(" + i + ")", generators.get(i), group.now().generator(i));
            for (int k = 0; k < oracle.classes(); k++) {
                Check.due(oracle.d + ": exponent(" + k + ", " + i + ")",
                        exponents.get(k).get(i), group.now().exponent(k, i));
            }
        }
        int none = generators.size();
        Check.outOfBounds(oracle.d + ": generator(" + none + ")", () -> group.now().generator(none));
        Check.outOfBounds(oracle.d + ": exponent(0, " + none + ")", () -> group.now().exponent(0, none));
    }
}
