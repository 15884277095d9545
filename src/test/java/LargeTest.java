import java.util.Random;

/** The largest groups, where the oracle can only be asked for some of the products. */
public final class LargeTest {
    /** The ends of what can be taken, the most classes, reduced forms and generators, and long cycles. */
    private static final int[] CHOSEN = {
        -1048576, -1048575, -1036031, -1004640, -984896, -804639, -786000, -781431,
        1048573, 1048572, 1007161, 1035241, 1021020, 968584, 767449
    };

    public static void main(String[] args) {
        Random random = new Random(1048576);
        for (int d : CHOSEN) {
            Oracle oracle = new Oracle(d);
            Renewed group = new Renewed(d);
            compareClasses(oracle, group);
            compareSomeProducts(oracle, group, random);
            compareGroup(d, group);
        }
        structure(-1036031, 1908);
        structure(-1048576, 256);
        structure(-1004640, 14, 2, 2, 2, 2, 2);
        structure(-804639, 32, 16, 2);
        structure(1021020, 2, 2, 2, 2, 2, 2);
        structure(767449, 392);
        structure(1048573);
        Check.end();
    }

    private static void compareClasses(Oracle oracle, Renewed group) {
        Check.due(oracle.d + ": count(1)", oracle.classes(), group.now().count(1));
        Check.due(oracle.d + ": count(3)", oracle.principal(), group.now().count(3));
        Check.due(oracle.d + ": count(5)", oracle.reducedForms, group.now().count(5));
        for (int k = 0; k < oracle.classes(); k++) {
            long[] f = oracle.names.get(k);
            for (int what = 0; what < 3; what++) {
                Check.due(oracle.d + ": name(" + k + ", " + what + ")", f[what], group.now().name(k, what));
            }
            Check.due(oracle.d + ": classOf the name of " + k, k,
                    group.now().classOf((int) f[0], (int) f[1], (int) f[2]));
            Check.due(oracle.d + ": inverse(" + k + ")", oracle.classOf(f[0], -f[1], f[2]),
                    group.now().inverse(k));
        }
    }

    private static void compareSomeProducts(Oracle oracle, Renewed group, Random random) {
        for (int n = 0; n < 60; n++) {
            int j = random.nextInt(oracle.classes());
            int k = n % 4 == 0 ? j : random.nextInt(oracle.classes());
            Check.due(oracle.d + ": product(" + j + ", " + k + ")",
                    oracle.product(j, k), group.now().product(j, k));
        }
    }

    /** Orders, generators and exponents, from products and powers alone. */
    private static void compareGroup(int d, Renewed group) {
        int classes = group.now().count(1);
        int generators = group.now().count(2);
        int principal = group.now().count(3);
        int greatest = 0;
        for (int k = 0; k < classes; k++) {
            int order = group.now().order(k);
            greatest = Math.max(greatest, order);
            compareOrder(d, group, k, order, principal);
            int made = principal;
            for (int i = 0; i < generators; i++) {
                int n = group.now().exponent(k, i);
                int g = group.now().generator(i);
                Check.holds(d + ": exponent(" + k + ", " + i + ") in its bounds",
                        n >= 0 && n < group.now().order(g));
                made = group.now().product(made, group.now().power(g, n));
            }
            Check.due(d + ": class made of the exponents of " + k, k, made);
        }
        Check.due(d + ": count(4)", greatest, group.now().count(4));
    }

    private static void compareOrder(int d, Renewed group, int k, int order, int principal) {
        Check.due(d + ": power(" + k + ", " + order + ")", principal, group.now().power(k, order));
        for (int p = 2; p <= order; p++) {
            if (order % p == 0) {
                Check.holds(d + ": order(" + k + ") is the least",
                        group.now().power(k, order / p) != principal);
            }
        }
    }

    private static void structure(int d, int... orders) {
        ClassGroup group = new ClassGroup();
        group.take(d);
        Check.due(d + ": count(2)", orders.length, group.count(2));
        for (int i = 0; i < orders.length; i++) {
            Check.due(d + ": order of generator " + i, orders[i], group.order(group.generator(i)));
        }
    }
}
