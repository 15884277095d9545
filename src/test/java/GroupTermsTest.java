/**
 * Each sentence of the document's "Terms" about the group that names a boundary case, with a test of its own:
 * e above 1, the powers for 0 and below 0, the first of the greatest order, the end of the generators.
 */
public final class GroupTermsTest {
    private static final int LEAST_INT = Integer.MIN_VALUE;
    private static final int GREATEST_INT = Integer.MAX_VALUE;

    /** One class; one, two, three and more generators; D above 0 with the principal class first and not first. */
    private static final int[] CHOSEN = {
        -3, -4, -15, -23, -47, -84, -420, -1056, -3299, -5460, 5, 12, 28, 60, 229, 1020, 1129, 4097
    };

    public static void main(String[] args) {
        Check.sentence("let e be the greatest number that goes into a1, a2 and (b1 + b2) / 2",
                GroupTermsTest::greatestNumber);
        Check.sentence("It is the same for all forms of the two, and all such b", GroupTermsTest::sameForAllForms);
        Check.sentence("The INVERSE of a class is the one with which its product is the principal class",
                GroupTermsTest::inverse);
        Check.sentence("POWERS: the principal class for 0", GroupTermsTest::powerOfZero);
        Check.sentence("POWERS: for n below 0, its inverse -n times", GroupTermsTest::powersBelowZero);
        Check.sentence("POWERS: n times a class as a factor", GroupTermsTest::powersRoundTheOrder);
        Check.sentence("The ORDER of a class is the least n above 0", GroupTermsTest::leastAboveZero);
        Check.sentence("GENERATORS: each is the class of the greatest order", GroupTermsTest::greatestOrder);
        Check.sentence("GENERATORS: of these the first", GroupTermsTest::firstOfThese);
        Check.sentence("GENERATORS: among those that aren't principal", GroupTermsTest::notPrincipal);
        Check.sentence("GENERATORS: no power but the principal class is a product of powers of those before",
                GroupTermsTest::noPowerMade);
        Check.sentence("GENERATORS: as long as there are such", GroupTermsTest::asLongAsThereAre);
        Check.sentence("EXPONENTS from 0 to one less than their orders", GroupTermsTest::fromZeroToOneLess);
        Check.sentence("Each class is a product of powers of them, in one way", GroupTermsTest::inOneWay);
        Check.end();
    }

    private static void greatestNumber() {
        // By hand, D = -47: e = 1 for (2, 1, 6) twice, and 2 for (2, 1, 6) and (2, -1, 6), where b1 + b2 = 0.
        Check.due("-47: product(2, 2)", 3, taken(-47).product(2, 2));
        Check.due("-47: product(2, 1)", 0, taken(-47).product(2, 1));
        // D = -84: e = 2 for (2, 2, 11) twice, 3 for (3, 0, 7) twice, 1 for the two; for (5, 4, 5) twice e = 1.
        Check.due("-84: product(1, 1)", 0, taken(-84).product(1, 1));
        Check.due("-84: product(2, 2)", 0, taken(-84).product(2, 2));
        Check.due("-84: product(1, 2)", 3, taken(-84).product(1, 2));
        Check.due("-84: product(3, 3)", 0, taken(-84).product(3, 3));
        // D = 12: e = 2 for (-2, 2, 1) twice, 1 for it and (-1, 2, 2).
        Check.due("12: product(0, 0)", 0, taken(12).product(0, 0));
        Check.due("12: product(0, 1)", 1, taken(12).product(0, 1));
        Check.due("12: product(1, 1)", 0, taken(12).product(1, 1));
        for (int d : CHOSEN) {
            ClassGroup group = taken(d);
            int last = group.count(1) - 1;
            int principal = group.count(3);
            Check.due(d + ": principal by principal", principal, group.product(principal, principal));
            Check.due(d + ": principal by last", last, group.product(principal, last));
            Check.due(d + ": last by principal", last, group.product(last, principal));
            Check.due(d + ": last by last", new Oracle(d).product(last, last), group.product(last, last));
        }
    }

    private static void sameForAllForms() {
        for (int d : new int[] {-23, -47, -84, -87, -96, 12, 28, 60, 136, 229}) {
            Oracle oracle = new Oracle(d);
            Renewed group = new Renewed(d);
            for (long[] f : oracle.forms) {
                for (long[] g : oracle.forms) {
                    int j = group.now().classOf((int) f[0], (int) f[1], (int) f[2]);
                    int k = group.now().classOf((int) g[0], (int) g[1], (int) g[2]);
                    Check.due(d + ": product(" + j + ", " + k + ")", oracle.productOf(f, g),
                            group.now().product(j, k));
                }
            }
        }
    }

    private static void inverse() {
        int[] of47 = {0, 2, 1, 4, 3};
        for (int k = 0; k < 5; k++) {
            Check.due("-47: inverse(" + k + ")", of47[k], taken(-47).inverse(k));
        }
        int[] of229 = {1, 0, 2};
        for (int k = 0; k < 3; k++) {
            Check.due("229: inverse(" + k + ")", of229[k], taken(229).inverse(k));
        }
        for (int d : CHOSEN) {
            Renewed group = new Renewed(d);
            int principal = group.now().count(3);
            Check.due(d + ": inverse of the principal class", principal, group.now().inverse(principal));
            for (int k = 0; k < group.now().count(1); k++) {
                int other = group.now().inverse(k);
                Check.due(d + ": product with the inverse of " + k, principal, group.now().product(k, other));
                Check.due(d + ": inverse of the inverse of " + k, k, group.now().inverse(other));
            }
        }
    }

    private static void powerOfZero() {
        Check.due("229: power(0, 0)", 2, taken(229).power(0, 0));
        for (int d : CHOSEN) {
            Renewed group = new Renewed(d);
            for (int k = 0; k < group.now().count(1); k++) {
                Check.due(d + ": power(" + k + ", 0)", group.now().count(3), group.now().power(k, 0));
                Check.due(d + ": power(" + k + ", 1)", k, group.now().power(k, 1));
                Check.due(d + ": power(" + k + ", -1)", group.now().inverse(k), group.now().power(k, -1));
            }
        }
    }

    private static void powersBelowZero() {
        int[] of47 = {0, 1, 4, 3, 2};
        for (int n : new int[] {-1, -2, -3, -4, -5, -6, -1073741824, LEAST_INT, LEAST_INT + 1, LEAST_INT + 2}) {
            Check.due("-47: power(1, " + n + ")", of47[Math.floorMod(n, 5)], taken(-47).power(1, n));
        }
        for (int d : CHOSEN) {
            Renewed group = new Renewed(d);
            for (int k = 0; k < group.now().count(1); k++) {
                int other = group.now().inverse(k);
                int made = other;
                for (int n = -2; n >= -6; n--) {
                    made = group.now().product(made, other);
                    Check.due(d + ": power(" + k + ", " + n + ")", made, group.now().power(k, n));
                }
            }
        }
    }

    private static void powersRoundTheOrder() {
        for (int d : CHOSEN) {
            Oracle oracle = new Oracle(d);
            Renewed group = new Renewed(d);
            for (int k = 0; k < oracle.classes(); k++) {
                int order = oracle.order(k);
                for (int n : new int[] {
                    2, 3, order - 1, order, order + 1, 2 * order, -order, 1 - order, -order - 1, 1073741824,
                    GREATEST_INT - 1, GREATEST_INT, LEAST_INT, LEAST_INT + 1
                }) {
                    Check.due(d + ": power(" + k + ", " + n + ")", oracle.power(k, Math.floorMod(n, order)),
                            group.now().power(k, n));
                }
            }
        }
    }

    private static void leastAboveZero() {
        for (int d : CHOSEN) {
            Renewed group = new Renewed(d);
            int principal = group.now().count(3);
            Check.due(d + ": order of the principal class", 1, group.now().order(principal));
            for (int k = 0; k < group.now().count(1); k++) {
                int order = group.now().order(k);
                int made = k;
                for (int n = 1; n < order; n++) {
                    Check.holds(d + ": power(" + k + ", " + n + ") is not principal", made != principal);
                    made = group.now().product(made, k);
                }
                Check.due(d + ": power(" + k + ", " + order + ")", principal, made);
            }
        }
    }

    private static void greatestOrder() {
        // -3299: 9 and 3; class 7 is of order 3, and no class of order 9 is free of generator 0.
        Check.due("-3299: generator(0)", 1, taken(-3299).generator(0));
        Check.due("-3299: order(1)", 9, taken(-3299).order(1));
        Check.due("-3299: generator(1)", 7, taken(-3299).generator(1));
        Check.due("-3299: order(7)", 3, taken(-3299).order(7));
        for (int d : CHOSEN) {
            ClassGroup group = taken(d);
            int before = group.count(4);
            for (int i = 0; i < group.count(2); i++) {
                int order = group.order(group.generator(i));
                Check.holds(d + ": the order of generator " + i, order <= before && (i > 0 || order == before));
                before = order;
            }
        }
    }

    private static void firstOfThese() {
        // All but the principal class have the same order: 5, 3, 2 and 2.
        Check.due("-47: generator(0)", 1, taken(-47).generator(0));
        Check.due("229: generator(0)", 0, taken(229).generator(0));
        for (int i = 0; i < 2; i++) {
            Check.due("-84: generator(" + i + ")", i + 1, taken(-84).generator(i));
        }
        int[] of420 = {1, 2, 3};
        for (int i = 0; i < 3; i++) {
            Check.due("-420: generator(" + i + ")", of420[i], taken(-420).generator(i));
        }
        for (int d : CHOSEN) {
            Oracle oracle = new Oracle(d);
            for (int i = 0; i < oracle.generators().size(); i++) {
                Check.due(d + ": generator(" + i + ")", oracle.generators().get(i), taken(d).generator(i));
            }
        }
    }

    private static void notPrincipal() {
        for (int d : new int[] {-3, -4, -7, -8, -11, -12, -27, -28, -163, 5, 8, 13, 20, 1048573}) {
            Check.due(d + ": count(1)", 1, taken(d).count(1));
            Check.due(d + ": count(2)", 0, taken(d).count(2));
            Check.due(d + ": count(4)", 1, taken(d).count(4));
            Check.outOfBounds(d + ": generator(0)", () -> taken(d).generator(0));
        }
        for (int d : CHOSEN) {
            ClassGroup group = taken(d);
            for (int i = 0; i < group.count(2); i++) {
                Check.holds(d + ": generator(" + i + ") is not principal", group.generator(i) != group.count(3));
            }
        }
    }

    private static void noPowerMade() {
        // Classes 5 and 6 have order 4 too, and generator 0 does not make them, but it makes their squares.
        int[] of1056 = {3, 1, 7};
        for (int i = 0; i < 3; i++) {
            Check.due("-1056: generator(" + i + ")", of1056[i], taken(-1056).generator(i));
        }
        ClassGroup group = taken(-1056);
        for (int k = 5; k <= 6; k++) {
            Check.due("-1056: order(" + k + ")", 4, group.order(k));
            Check.due("-1056: the square of " + k, group.power(3, 2), group.power(k, 2));
            Check.holds("-1056: generator 0 does not make " + k, group.power(3, 1) != k && group.power(3, 3) != k);
        }
    }

    private static void asLongAsThereAre() {
        int[][] rows = {
            {-4, 0}, {-15, 1}, {-47, 1}, {-84, 2}, {-420, 3}, {-5460, 4}, {-1004640, 6}, {-1036031, 1},
            {5, 0}, {12, 1}, {229, 1}, {1020, 3}, {1021020, 6}, {1048573, 0}
        };
        for (int[] row : rows) {
            ClassGroup group = taken(row[0]);
            Check.due(row[0] + ": count(2)", row[1], group.count(2));
            int made = 1;
            for (int i = 0; i < row[1]; i++) {
                made *= group.order(group.generator(i));
            }
            Check.due(row[0] + ": the orders multiply to the number of classes", group.count(1), made);
            Check.outOfBounds(row[0] + ": generator(" + row[1] + ")", () -> group.generator(row[1]));
        }
    }

    private static void fromZeroToOneLess() {
        for (int d : new int[] {-15, -47, -84, -420, -1056, -3299, -5460, 12, 60, 229, 1020, -1004640, -1036031}) {
            Renewed group = new Renewed(d);
            int generators = group.now().count(2);
            for (int i = 0; i < generators; i++) {
                int g = group.now().generator(i);
                int order = group.now().order(g);
                for (int other = 0; other < generators; other++) {
                    Check.due(d + ": exponent " + other + " of the principal class", 0,
                            group.now().exponent(group.now().count(3), other));
                    Check.due(d + ": exponent " + other + " of generator " + i, other == i ? 1 : 0,
                            group.now().exponent(g, other));
                    Check.due(d + ": exponent " + other + " of its inverse", other == i ? order - 1 : 0,
                            group.now().exponent(group.now().inverse(g), other));
                }
            }
        }
    }

    private static void inOneWay() {
        for (int d : CHOSEN) {
            Renewed group = new Renewed(d);
            for (int k = 0; k < group.now().count(1); k++) {
                int made = group.now().count(3);
                for (int i = 0; i < group.now().count(2); i++) {
                    int g = group.now().generator(i);
                    int n = group.now().exponent(k, i);
                    Check.holds(d + ": exponent(" + k + ", " + i + ")", n >= 0 && n < group.now().order(g));
                    made = group.now().product(made, group.now().power(g, n));
                }
                Check.due(d + ": the class made of the exponents of " + k, k, made);
            }
        }
    }

    private static ClassGroup taken(int d) {
        ClassGroup group = new ClassGroup();
        group.take(d);
        return group;
    }
}
