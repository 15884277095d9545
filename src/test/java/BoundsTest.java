/**
 * Each sentence of promises 1 to 11 that names a boundary case, with a test of its own: just inside the bound,
 * at it, just outside it, and the least and the greatest int.
 */
public final class BoundsTest {
    private static final int LEAST_INT = Integer.MIN_VALUE;
    private static final int GREATEST_INT = Integer.MAX_VALUE;

    /** One class, a few, the most that there are; one or several generators; D on both sides of 0. */
    private static final int[] CHOSEN = {-4, -3, -15, -47, -84, -420, -1036031, -1004640, 5, 12, 229, 1020, 767449};

    public static void main(String[] args) {
        Check.sentence("promise 1: D is -4", BoundsTest::newObject);
        Check.sentence("promise 2: D becomes d: how many classes there are", BoundsTest::take);
        Check.sentence("promise 2: IllegalArgumentException: it can't be taken", BoundsTest::cannotBeTaken);
        Check.sentence("promise 3: 0: D; 1: how many classes; .. 5: how many reduced forms all classes have",
                BoundsTest::count);
        Check.sentence("promise 3: -1 for another what", BoundsTest::anotherWhat);
        Check.sentence("promise 4: Coefficient what (0 a, 1 b, 2 c) of the name of class k", BoundsTest::name);
        Check.sentence("promise 4: IndexOutOfBoundsException: there is no such class", BoundsTest::nameOfNoClass);
        Check.sentence("promise 4: IndexOutOfBoundsException: or another what", BoundsTest::nameOfAnotherWhat);
        Check.sentence("promise 5: The number of the class of a form", BoundsTest::classOf);
        Check.sentence("promise 5: IllegalArgumentException: it is none of D's", BoundsTest::noneOfDs);
        Check.sentence("promise 5: a coefficient from -1073741824 to 1073741824", BoundsTest::coefficients);
        Check.sentence("promise 5: IllegalArgumentException: or a coefficient isn't from -1073741824 to 1073741824",
                BoundsTest::coefficientsOutside);
        Check.sentence("promise 6: IndexOutOfBoundsException: there is no such class", BoundsTest::product);
        Check.sentence("promise 7: IndexOutOfBoundsException: there is no such class", BoundsTest::inverse);
        Check.sentence("promise 8: IndexOutOfBoundsException: there is no such class", BoundsTest::power);
        Check.sentence("promise 9: IndexOutOfBoundsException: there is no such class", BoundsTest::order);
        Check.sentence("promise 10: IndexOutOfBoundsException: there is none", BoundsTest::generator);
        Check.sentence("promise 11: IndexOutOfBoundsException: there is no such class", BoundsTest::exponent);
        Check.sentence("promise 11: IndexOutOfBoundsException: or generator", BoundsTest::exponentOfNoGenerator);
        Check.end();
    }

    private static void newObject() {
        int[] counts = {-4, 1, 0, 0, 1, 1};
        for (int what = 0; what < counts.length; what++) {
            Check.due("count(" + what + ") as the first call", counts[what], new ClassGroup().count(what));
        }
        int[] name = {1, 0, 1};
        for (int what = 0; what < 3; what++) {
            Check.due("name(0, " + what + ")", name[what], new ClassGroup().name(0, what));
        }
        Check.due("classOf(1, 0, 1)", 0, new ClassGroup().classOf(1, 0, 1));
        Check.due("classOf(5, 4, 1)", 0, new ClassGroup().classOf(5, 4, 1));
        Check.due("product(0, 0)", 0, new ClassGroup().product(0, 0));
        Check.due("inverse(0)", 0, new ClassGroup().inverse(0));
        Check.due("power(0, 5)", 0, new ClassGroup().power(0, 5));
        Check.due("order(0)", 1, new ClassGroup().order(0));
        Check.outOfBounds("name(1, 0)", () -> new ClassGroup().name(1, 0));
        Check.outOfBounds("generator(0)", () -> new ClassGroup().generator(0));
        Check.outOfBounds("exponent(0, 0)", () -> new ClassGroup().exponent(0, 0));
        Check.illegal("classOf(1, 1, 1)", () -> new ClassGroup().classOf(1, 1, 1));
        Check.illegal("take(0)", () -> new ClassGroup().take(0));
    }

    private static void take() {
        int[][] rows = {
            {-1048576, 256}, {-1048575, 864}, {-1036031, 1908}, {-4, 1}, {-3, 1}, {-15, 2},
            {5, 1}, {8, 1}, {12, 2}, {767449, 392}, {1048572, 96}, {1048573, 1}
        };
        ClassGroup group = new ClassGroup();
        for (int[] row : rows) {
            for (int again = 0; again < 2; again++) {
                Check.due("take(" + row[0] + ")", row[1], group.take(row[0]));
                Check.due("count(0) after it", row[0], group.count(0));
                Check.due("count(1) after it", row[1], group.count(1));
            }
        }
    }

    private static void cannotBeTaken() {
        for (int d : Refusals.DISCRIMINANTS) {
            Check.illegal("take(" + d + ")", () -> new ClassGroup().take(d));
            Check.illegal("take(" + d + ") after another", () -> taken(229).take(d));
        }
    }

    private static void count() {
        int[][] rows = {
            {-4, 1, 0, 0, 1, 1}, {-3, 1, 0, 0, 1, 1}, {-47, 5, 1, 0, 5, 5}, {-84, 4, 2, 0, 2, 4},
            {5, 1, 0, 0, 1, 2}, {12, 2, 1, 0, 2, 4}, {28, 2, 1, 0, 2, 8}, {229, 3, 1, 2, 3, 14},
            {-1036031, 1908, 1, 0, 1908, 1908}, {1048573, 1, 0, 0, 1, 1106}
        };
        for (int[] row : rows) {
            for (int what = 0; what < row.length; what++) {
                Check.due(row[0] + ": count(" + what + ")", row[what], taken(row[0]).count(what));
            }
        }
    }

    private static void anotherWhat() {
        for (int d : CHOSEN) {
            for (int what : new int[] {-1, -2, 6, 7, 256, 65536, LEAST_INT, LEAST_INT + 1, GREATEST_INT}) {
                Check.due(d + ": count(" + what + ")", -1, taken(d).count(what));
            }
            Check.holds(d + ": count(0) and count(5) are no -1", taken(d).count(0) != -1 && taken(d).count(5) != -1);
        }
    }

    private static void name() {
        int[][] rows = {
            {-4, 0, 1, 0, 1}, {-47, 0, 1, 1, 12}, {-47, 4, 3, 1, 4}, {-84, 3, 5, 4, 5}, {5, 0, -1, 1, 1},
            {12, 0, -2, 2, 1}, {12, 1, -1, 2, 2}, {-1048576, 0, 1, 0, 262144}, {-1048575, 0, 1, 1, 262144},
            {1048573, 0, -979, 971, 27}
        };
        for (int[] row : rows) {
            for (int what = 0; what < 3; what++) {
                Check.due(row[0] + ": name(" + row[1] + ", " + what + ")", row[2 + what],
                        taken(row[0]).name(row[1], what));
            }
        }
    }

    private static void nameOfNoClass() {
        for (int d : CHOSEN) {
            for (int k : insideOf(d)) {
                for (int what = 0; what < 3; what++) {
                    int coefficient = what;
                    answers(d + ": name(" + k + ", " + what + ")", -1048576, 1048576,
                            () -> taken(d).name(k, coefficient));
                }
            }
            for (int k : outsideOf(d)) {
                for (int what = 0; what < 3; what++) {
                    int coefficient = what;
                    Check.outOfBounds(d + ": name(" + k + ", " + what + ")", () -> taken(d).name(k, coefficient));
                }
            }
        }
    }

    private static void nameOfAnotherWhat() {
        for (int d : CHOSEN) {
            for (int what : new int[] {-1, -2, 3, 4, LEAST_INT, GREATEST_INT}) {
                for (int k : insideOf(d)) {
                    Check.outOfBounds(d + ": name(" + k + ", " + what + ")", () -> taken(d).name(k, what));
                }
                for (int k : outsideOf(d)) {
                    Check.outOfBounds(d + ": name(" + k + ", " + what + ")", () -> taken(d).name(k, what));
                }
            }
        }
    }

    private static void classOf() {
        for (int d : CHOSEN) {
            for (int k : insideOf(d)) {
                ClassGroup group = taken(d);
                int a = group.name(k, 0);
                int b = group.name(k, 1);
                int c = group.name(k, 2);
                Check.due(d + ": its name", k, group.classOf(a, b, c));
                Check.due(d + ": turned", k, group.classOf(c, -b, a));
                Check.due(d + ": moved", k, group.classOf(a, b + 2 * a, a + b + c));
                Check.due(d + ": moved back", k, group.classOf(a, b - 2 * a, a - b + c));
            }
        }
    }

    private static void noneOfDs() {
        int[][] none = {
            {1, 1, 11}, {1, 1, 13}, {1, 0, 12}, {1, 2, 12}, {2, 1, 5}, {2, 1, 7}, {-1, 1, -12}, {-2, 1, -6},
            {0, 1, 12}, {1, 1, 0}, {0, 0, 0}, {0, 0, 12}, {0, -47, 0},
            {LEAST_INT, 1, 12}, {1, LEAST_INT, 12}, {1, 1, LEAST_INT}, {LEAST_INT, LEAST_INT, LEAST_INT},
            {GREATEST_INT, 1, 12}, {1, GREATEST_INT, 12}, {1, 1, GREATEST_INT},
            {GREATEST_INT, GREATEST_INT, GREATEST_INT}, {1073741824, 1073741824, 1073741824}
        };
        for (int[] f : none) {
            refusesForm(-47, f);
            refusesForm(229, f);
        }
        refusesForm(-48, 2, 0, 6);
        refusesForm(-48, 4, 4, 4);
        refusesForm(48, 2, 4, -4);
        refusesForm(12, 1, 0, 3);
        refusesForm(12, -1, 0, -3);
        refusesForm(5, 0, 1, 5);
        // b b - 4 a c is D in 32 bits alone.
        refusesForm(-4, 3, 0, 715827883);
        refusesForm(-4, 1, 65536, 1);
        refusesForm(12, 1, 65536, -3);
        refusesForm(12, 1, 0, 1073741821);
    }

    private static void coefficients() {
        int[][] rows = {
            {-131067, 1073741823, 65535, 1}, {-131071, 1073741824, 65535, 1},
            {131077, 1073741823, 65537, 1}, {131073, 1073741824, 65537, 1},
            {131077, -1073741823, 65537, -1}, {131073, -1073741824, 65537, -1},
            {-88047, 536847742, 1073741823, 536894082}, {-4, 536838145, 1073741824, 536903681},
            {97317, 536847741, 1073741823, 536894083}, {4632, 536847742, 1073741824, 536894083},
            {97317, -536847741, 1073741823, -536894083}, {4632, -536847742, 1073741824, -536894083}
        };
        for (int[] row : rows) {
            Oracle oracle = new Oracle(row[0]);
            for (int sign = -1; sign <= 1; sign += 2) {
                takesForm(oracle, row[1], sign * row[2], row[3]);
                takesForm(oracle, row[3], sign * row[2], row[1]);
            }
        }
    }

    private static void takesForm(Oracle oracle, int a, int b, int c) {
        Check.due("D of a form at the bounds", oracle.d, (long) b * b - 4L * a * c);
        Check.due(oracle.d + ": classOf(" + a + ", " + b + ", " + c + ")", oracle.classOf(a, b, c),
                taken(oracle.d).classOf(a, b, c));
    }

    private static void coefficientsOutside() {
        // Forms of D, but for the coefficient that lies outside.
        int[][] rows = {
            {-4, 1073741825, 65536, 1}, {131069, 1073741825, 65537, 1}, {131069, -1073741825, 65537, -1},
            {-88051, 536847743, 1073741825, 536894083}, {97313, 536847742, 1073741825, 536894084},
            {97313, -536847742, 1073741825, -536894084}, {-180732, 536847744, 1073741826, 536894083}
        };
        for (int[] row : rows) {
            Check.due("D of a form outside the bounds", row[0], (long) row[2] * row[2] - 4L * row[1] * row[3]);
            for (int sign = -1; sign <= 1; sign += 2) {
                refusesForm(row[0], row[1], sign * row[2], row[3]);
                refusesForm(row[0], row[3], sign * row[2], row[1]);
            }
        }
    }

    private static void product() {
        for (int d : CHOSEN) {
            int classes = taken(d).count(1);
            for (int j : insideOf(d)) {
                for (int k : insideOf(d)) {
                    answers(d + ": product(" + j + ", " + k + ")", 0, classes - 1, () -> taken(d).product(j, k));
                }
                for (int k : outsideOf(d)) {
                    Check.outOfBounds(d + ": product(" + k + ", " + j + ")", () -> taken(d).product(k, j));
                    Check.outOfBounds(d + ": product(" + j + ", " + k + ")", () -> taken(d).product(j, k));
                }
            }
            for (int j : outsideOf(d)) {
                for (int k : outsideOf(d)) {
                    Check.outOfBounds(d + ": product(" + j + ", " + k + ")", () -> taken(d).product(j, k));
                }
            }
        }
    }

    private static void inverse() {
        for (int d : CHOSEN) {
            int classes = taken(d).count(1);
            for (int k : insideOf(d)) {
                answers(d + ": inverse(" + k + ")", 0, classes - 1, () -> taken(d).inverse(k));
            }
            for (int k : outsideOf(d)) {
                Check.outOfBounds(d + ": inverse(" + k + ")", () -> taken(d).inverse(k));
            }
        }
    }

    private static void power() {
        for (int d : CHOSEN) {
            int classes = taken(d).count(1);
            for (int n : new int[] {0, 1, -1, 2, LEAST_INT, GREATEST_INT}) {
                for (int k : insideOf(d)) {
                    answers(d + ": power(" + k + ", " + n + ")", 0, classes - 1, () -> taken(d).power(k, n));
                }
                for (int k : outsideOf(d)) {
                    Check.outOfBounds(d + ": power(" + k + ", " + n + ")", () -> taken(d).power(k, n));
                }
            }
        }
    }

    private static void order() {
        for (int d : CHOSEN) {
            int greatest = taken(d).count(4);
            for (int k : insideOf(d)) {
                answers(d + ": order(" + k + ")", 1, greatest, () -> taken(d).order(k));
            }
            for (int k : outsideOf(d)) {
                Check.outOfBounds(d + ": order(" + k + ")", () -> taken(d).order(k));
            }
        }
    }

    private static void generator() {
        for (int d : CHOSEN) {
            int classes = taken(d).count(1);
            int generators = taken(d).count(2);
            for (int i = 0; i < generators; i++) {
                int there = i;
                answers(d + ": generator(" + i + ")", 0, classes - 1, () -> taken(d).generator(there));
            }
            for (int i : outsideOf(generators, classes)) {
                Check.outOfBounds(d + ": generator(" + i + ")", () -> taken(d).generator(i));
            }
        }
    }

    private static void exponent() {
        for (int d : CHOSEN) {
            for (int i = 0; i < taken(d).count(2); i++) {
                int there = i;
                int order = orderOfGenerator(d, i);
                for (int k : insideOf(d)) {
                    answers(d + ": exponent(" + k + ", " + i + ")", 0, order - 1, () -> taken(d).exponent(k, there));
                }
                for (int k : outsideOf(d)) {
                    Check.outOfBounds(d + ": exponent(" + k + ", " + i + ")", () -> taken(d).exponent(k, there));
                }
            }
        }
    }

    private static void exponentOfNoGenerator() {
        for (int d : CHOSEN) {
            for (int i : outsideOf(taken(d).count(2), taken(d).count(1))) {
                for (int k : insideOf(d)) {
                    Check.outOfBounds(d + ": exponent(" + k + ", " + i + ")", () -> taken(d).exponent(k, i));
                }
                for (int k : outsideOf(d)) {
                    Check.outOfBounds(d + ": exponent(" + k + ", " + i + ")", () -> taken(d).exponent(k, i));
                }
            }
        }
    }

    private static ClassGroup taken(int d) {
        ClassGroup group = new ClassGroup();
        group.take(d);
        return group;
    }

    private static int orderOfGenerator(int d, int i) {
        ClassGroup group = taken(d);
        return group.order(group.generator(i));
    }

    /** The first class and the last one. */
    private static int[] insideOf(int d) {
        return new int[] {0, taken(d).count(1) - 1};
    }

    private static int[] outsideOf(int d) {
        int classes = taken(d).count(1);
        return outsideOf(classes, classes);
    }

    /** Indices at and beyond a bound, and others that a row held inside may or may not have. */
    private static int[] outsideOf(int bound, int more) {
        return new int[] {
            -1, -2, bound, bound + 1, more, Math.max(1908, bound), 4096, LEAST_INT, LEAST_INT + 1, GREATEST_INT
        };
    }

    private static void answers(String call, int least, int greatest, Check.Call tried) {
        try {
            long got = tried.run();
            Check.holds(call + " within its bounds: " + got, got >= least && got <= greatest);
        } catch (RuntimeException e) {
            Check.holds(call + ", which threw " + e, false);
        }
    }

    private static void refusesForm(int d, int... f) {
        ClassGroup group = taken(d);
        Check.illegal(d + ": classOf(" + f[0] + ", " + f[1] + ", " + f[2] + ")",
                () -> group.classOf(f[0], f[1], f[2]));
    }
}
