/**
 * Each sentence of the document's "Terms" that names a boundary case, with a test of its own: at the boundary,
 * just inside it and just outside it. Products, powers, orders, generators: GroupTermsTest.
 */
public final class TermsTest {
    public static void main(String[] args) {
        Check.sentence("PRIMITIVE if no number above 1 goes into a, b and c", TermsTest::primitive);
        Check.sentence("D can be taken if it is some form's", TermsTest::someFormsD);
        Check.sentence("no square", TermsTest::noSquare);
        Check.sentence("from -1048576 to 1048576", TermsTest::fromTo);
        Check.sentence("and a above 0 if D is below 0", TermsTest::aAboveZero);
        Check.sentence("p s - q r = 1", TermsTest::properClasses);
        Check.sentence("|b| <= a <= c, and b is not below 0 if |b| = a or a = c", TermsTest::reducedBelowZero);
        Check.sentence("D below 0: how many forms are reduced", TermsTest::noReducedFormBesidesBelowZero);
        Check.sentence("0 < b < R and R - b < 2 |a| < R + b", TermsTest::reducedAboveZero);
        Check.sentence("D above 0: how many forms are reduced", TermsTest::noReducedFormBesidesAboveZero);
        Check.sentence("the reduced form in it with the least a", TermsTest::leastA);
        Check.sentence("of these that with the least b", TermsTest::leastB);
        Check.sentence("CLASSES have numbers from 0 on", TermsTest::numbersFromZeroOn);
        Check.sentence("in the order of their names (by a, then by b)", TermsTest::orderOfNames);
        Check.sentence("The PRINCIPAL class is that of (1, 0, -D / 4) or (1, 1, (1 - D) / 4)", TermsTest::principal);
        Check.end();
    }

    private static void primitive() {
        // Some number above 1 goes into any two of 6, 10 and 15, none into all three.
        Check.due("-260: (6, 10, 15) is like (6, -2, 11)", taken(-260).classOf(6, -2, 11),
                taken(-260).classOf(6, 10, 15));
        for (int g : new int[] {2, 3, 4, 5, 7, 457}) {
            refusesForm(-3 * g * g, g, g, g);
            refusesForm(5 * g * g, g, g, -g);
            refusesForm(5 * g * g, -g, g, g);
        }
        refusesForm(-1048576, 512, 0, 512);
        refusesForm(-1047843, 591, 591, 591);
        // (2, 2, 2), (3, 3, 3), (2, 2, 4), (2, 2, -2) and (-2, 2, 2) would be reduced.
        Check.due("take(-12)", 1, new ClassGroup().take(-12));
        Check.due("take(-27)", 1, new ClassGroup().take(-27));
        Check.due("take(-28)", 1, new ClassGroup().take(-28));
        Check.due("20: count(1)", 1, taken(20).count(1));
        Check.due("20: count(5)", 2, taken(20).count(5));
    }

    private static void someFormsD() {
        for (int d : new int[] {-3, -4, -7, -8, -11, -12, -1048575, 5, 8, 12, 13, 17, 20, 1048572, 1048573}) {
            takes(d);
        }
        for (int d : new int[] {
            -1, -2, -5, -6, -9, -10, -1048573, -1048574, 2, 3, 6, 7, 10, 11, 14, 15, 1048570, 1048571, 1048574, 1048575
        }) {
            refuses(d);
        }
    }

    private static void noSquare() {
        for (int r = 0; r <= 1024; r++) {
            refuses(r * r);
        }
        takes(5);
        takes(8);
        // The nearest on both sides that are some form's.
        for (int r = 4; r <= 1024; r += 2) {
            takes(r * r - 3);
        }
        for (int r = 4; r < 1024; r += 2) {
            takes(r * r + 1);
        }
        for (int r = 3; r < 1024; r += 2) {
            takes(r * r - 1);
            takes(r * r + 3);
        }
        // A square below 0 is none.
        for (int r : new int[] {2, 4, 6, 1022, 1024}) {
            takes(-r * r);
        }
    }

    private static void fromTo() {
        takes(-1048576);
        takes(-1048575);
        takes(1048573);
        // Some form's and no square: only the bounds speak against them.
        for (int d : new int[] {
            -1048579, -1048580, -1048583, -2097152, -1073741824, Integer.MIN_VALUE, Integer.MIN_VALUE + 1,
            1048577, 1048580, 1048581, 2097152, 1073741825, Integer.MAX_VALUE - 2, Integer.MAX_VALUE - 3
        }) {
            refuses(d);
        }
        // Neither is any of these: the bound that is a square, and the others that are no form's.
        for (int d : new int[] {1048576, -1048577, -1048578, 1048578, 1048579, Integer.MAX_VALUE}) {
            refuses(d);
        }
    }

    private static void aAboveZero() {
        Check.due("-47: classOf(1, 1, 12)", 0, taken(-47).classOf(1, 1, 12));
        refusesForm(-47, -1, 1, -12);
        refusesForm(-47, -1, -1, -12);
        refusesForm(-47, -12, 1, -1);
        refusesForm(-4, -1, 0, -1);
        refusesForm(-47, 0, 1, 12);
        Check.due("12: classOf(1, 0, -3)", 0, taken(12).classOf(1, 0, -3));
        Check.due("12: classOf(-1, 0, 3)", 1, taken(12).classOf(-1, 0, 3));
        Check.due("13: classOf(-1, 1, 3)", 0, taken(13).classOf(-1, 1, 3));
    }

    private static void properClasses() {
        int[][] matrices = {
            {1, 0, 0, 1}, {-1, 0, 0, -1}, {0, -1, 1, 0}, {0, 1, -1, 0}, {1, 1, 0, 1}, {1, 0, -1, 1}, {2, 1, 1, 1},
            {3, -5, -4, 7}, {100, 99, 101, 100}, {-41, 29, 24, -17}
        };
        int[][] forms = {
            {-47, 2, 1, 6}, {-47, 3, -1, 4}, {-23, 2, -1, 3}, {229, 3, 13, -5}, {229, -3, 13, 5}, {12, 1, 2, -2}
        };
        for (int[] row : forms) {
            for (int[] m : matrices) {
                Check.due("determinant", 1, m[0] * m[3] - m[1] * m[2]);
                ClassGroup group = taken(row[0]);
                int[] f = {row[1], row[2], row[3]};
                int[] g = changed(f, m);
                Check.due(row[0] + ": classOf(" + g[0] + ", " + g[1] + ", " + g[2] + ")",
                        group.classOf(f[0], f[1], f[2]), group.classOf(g[0], g[1], g[2]));
            }
        }
        // y to -y makes -1, and another class of a form whose order is above 2.
        Check.due("-47: classOf(2, 1, 6)", 2, taken(-47).classOf(2, 1, 6));
        Check.due("-47: classOf(2, -1, 6)", 1, taken(-47).classOf(2, -1, 6));
        Check.holds("229: (3, 13, -5) and (3, -13, -5) are in two classes",
                taken(229).classOf(3, 13, -5) != taken(229).classOf(3, -13, -5));
    }

    private static void reducedBelowZero() {
        for (int a = 1; a <= 24; a++) {
            for (int c = a; c <= a + 6; c++) {
                for (int b = Math.max(0, a - 4); b <= a; b++) {
                    compareReduced(a, b, c);
                }
                compareReduced(a, 0, c);
                compareReduced(a, 1, c);
                noName(a, a + 1, c);
                noName(a, -a - 1, c);
                noName(c + 1, a, c);
                noName(c + 1, -a, c);
            }
        }
    }

    private static void compareReduced(int a, int b, int c) {
        if (b > a || divisor(a, b, c) != 1) {
            return;
        }
        ClassGroup group = taken(b * b - 4 * a * c);
        int k = group.classOf(a, b, c);
        dueName(group, k, a, b, c);
        int other = group.classOf(a, -b, c);
        if (b == 0 || b == a || a == c) {
            Check.due("the class of (a, -b, c) for " + a + ", " + b + ", " + c, k, other);
        } else {
            dueName(group, other, a, -b, c);
            Check.holds("-b stands before b", other < k);
        }
    }

    private static void noName(int a, int b, int c) {
        if (divisor(a, b, c) != 1 || b * b - 4 * a * c >= 0) {
            return;
        }
        ClassGroup group = taken(b * b - 4 * a * c);
        int k = group.classOf(a, b, c);
        Check.holds("(" + a + ", " + b + ", " + c + ") is no name",
                group.name(k, 0) != a || group.name(k, 1) != b || group.name(k, 2) != c);
    }

    private static void noReducedFormBesidesBelowZero() {
        for (int d = -3; d >= -900; d--) {
            if (Oracle.canBeTaken(d)) {
                int reduced = reducedFormsBelowZero(d);
                ClassGroup group = taken(d);
                Check.due(d + ": count(5)", reduced, group.count(5));
                Check.due(d + ": count(1)", reduced, group.count(1));
            }
        }
    }

    private static int reducedFormsBelowZero(int d) {
        int found = 0;
        for (int a = 1; a * a <= -d; a++) {
            for (int b = -a; b <= a; b++) {
                int ac = (b * b - d) / 4;
                int c = ac / a;
                boolean edge = Math.abs(b) == a || a == c;
                if (b * b - 4 * a * c == d && a <= c && !(edge && b < 0) && divisor(a, b, c) == 1) {
                    found++;
                }
            }
        }
        return found;
    }

    private static void reducedAboveZero() {
        // By hand: 2 |a| just above and just below R - b, just below and just above R + b.
        Check.due("5: R - 1 < 2 < R + 1", 2, taken(5).count(5));
        Check.due("8: R - 2 < 2 < R + 2; b = 0 is not above 0", 2, taken(8).count(5));
        Check.due("12: R - 2 < 2, 4 < R + 2", 4, taken(12).count(5));
        Check.due("13: 2 < R - 1 and R + 1 < 6, so b = 3 alone", 2, taken(13).count(5));
        Check.due("21: R - 3 < 2, 6 < R + 3", 4, taken(21).count(5));
        Check.due("24: 2 < R - 2 and R + 2 < 10, so b = 4 alone", 4, taken(24).count(5));
        Check.due("28: 2 < R - 2 < 4, 6 < R + 2 < 12", 8, taken(28).count(5));
        // The greatest b below R, by hand: r itself just above r r, r - 2 just below it; each form's cycle has
        // but one other, (c, b, a).
        for (int r = 2; r < 1024; r++) {
            ClassGroup above = taken(r * r + 4);
            dueName(above, above.classOf(1, r, -1), -1, r, 1);
        }
        for (int r = 4; r <= 1024; r++) {
            ClassGroup below = taken(r * r - 4);
            dueName(below, below.classOf(1, r - 2, 2 - r), 2 - r, r - 2, 1);
        }
        for (int d : new int[] {5, 8, 12, 13, 21, 24, 28, 60, 101, 136, 229, 401, 580, 1020}) {
            compareFormsBesideTheBounds(d);
        }
    }

    /** A form just outside, taken for a reduced one, would be named itself or stand in no class. */
    private static void compareFormsBesideTheBounds(int d) {
        Oracle oracle = new Oracle(d);
        Renewed group = new Renewed(d);
        for (long[] f : oracle.forms) {
            int k = group.now().classOf((int) f[0], (int) f[1], (int) f[2]);
            Check.due(d + ": classOf(" + f[0] + ", " + f[1] + ", " + f[2] + ")",
                    oracle.classOf(f[0], f[1], f[2]), k);
            if (!isReducedAboveZero(d, (int) f[0], (int) f[1])) {
                Check.holds(d + ": (" + f[0] + ", " + f[1] + ", " + f[2] + ") is no name",
                        group.now().name(k, 0) != f[0] || group.now().name(k, 1) != f[1]);
            }
        }
    }

    private static void noReducedFormBesidesAboveZero() {
        for (int d = 5; d <= 1200; d++) {
            if (Oracle.canBeTaken(d)) {
                compareReducedForms(d);
            }
        }
        for (int r : new int[] {64, 65, 128, 255, 256, 511, 512, 1000, 1023}) {
            for (int d = r * r - 8; d <= r * r + 8; d++) {
                if (Oracle.canBeTaken(d)) {
                    compareReducedForms(d);
                }
            }
        }
        for (int d : new int[] {1048560, 1048561, 1048564, 1048565, 1048568, 1048569, 1048572, 1048573}) {
            compareReducedForms(d);
        }
    }

    private static void compareReducedForms(int d) {
        int found = 0;
        for (int b = 1; b * b < d; b++) {
            for (int a = 1; 2 * a - b <= 1024; a++) {
                int ac = (b * b - d) / 4;
                int c = ac / a;
                if (b * b - 4 * a * c == d && isReducedAboveZero(d, a, b) && divisor(a, b, c) == 1) {
                    found += 2;
                }
            }
        }
        Renewed group = new Renewed(d);
        Check.due(d + ": count(5)", found, group.now().count(5));
        for (int k = 0; k < group.now().count(1); k++) {
            Check.holds(d + ": the name of " + k + " is reduced",
                    isReducedAboveZero(d, group.now().name(k, 0), group.now().name(k, 1)));
        }
    }

    /** By whole numbers: R is compared with x by D and x x. */
    private static boolean isReducedAboveZero(int d, int a, int b) {
        int more = 2 * Math.abs(a) + b;
        int less = 2 * Math.abs(a) - b;
        return b > 0 && b * b < d && more * more > d && (less < 0 || less * less < d);
    }

    private static void leastA() {
        // All reduced forms, by hand: of 5 (-1, 1, 1) and (1, 1, -1); of 12 (-2, 2, 1) and (1, 2, -2) in one
        // class, (-1, 2, 2) and (2, 2, -1) in the other.
        dueName(taken(5), 0, -1, 1, 1);
        dueName(taken(12), 0, -2, 2, 1);
        dueName(taken(12), 1, -1, 2, 2);
        Check.due("12: classOf(1, 2, -2)", 0, taken(12).classOf(1, 2, -2));
        Check.due("12: classOf(2, 2, -1)", 1, taken(12).classOf(2, 2, -1));
    }

    private static void leastB() {
        // By hand: one class of 28 has (-3, 2, 2), (2, 2, -3), (-3, 4, 1) and (1, 4, -3).
        dueName(taken(28), 0, -3, 2, 2);
        dueName(taken(28), 1, -2, 2, 3);
        for (int[] f : new int[][] {{-3, 2, 2}, {2, 2, -3}, {-3, 4, 1}, {1, 4, -3}}) {
            Check.due("28: classOf(" + f[0] + ", " + f[1] + ", " + f[2] + ")", 0,
                    taken(28).classOf(f[0], f[1], f[2]));
        }
    }

    private static void numbersFromZeroOn() {
        for (int d : new int[] {-4, -47, 5, 12, 229, -1036031, 767449}) {
            int classes = taken(d).count(1);
            Check.holds(d + ": name(0, 0)", taken(d).name(0, 0) != 0);
            Check.holds(d + ": name(last, 0)", taken(d).name(classes - 1, 0) != 0);
            Check.outOfBounds(d + ": name(-1, 0)", () -> taken(d).name(-1, 0));
            Check.outOfBounds(d + ": name(" + classes + ", 0)", () -> taken(d).name(classes, 0));
        }
    }

    private static void orderOfNames() {
        int[][] names = {{1, 1, 12}, {2, -1, 6}, {2, 1, 6}, {3, -1, 4}, {3, 1, 4}};
        for (int k = 0; k < names.length; k++) {
            dueName(taken(-47), k, names[k]);
        }
        for (int d : new int[] {-84, -3299, -1004640, -1036031, 60, 28, 1020, 767449}) {
            Renewed group = new Renewed(d);
            for (int k = 1; k < group.now().count(1); k++) {
                int a = group.now().name(k - 1, 0);
                int b = group.now().name(k - 1, 1);
                int nextA = group.now().name(k, 0);
                int nextB = group.now().name(k, 1);
                Check.holds(d + ": the name of " + k + " stands behind the one before",
                        a < nextA || (a == nextA && b < nextB));
            }
        }
    }

    private static void principal() {
        int[][] rows = {
            {-3, 0}, {-4, 0}, {-7, 0}, {-8, 0}, {-47, 0}, {-84, 0}, {-1048576, 0}, {-1048575, 0},
            {5, 0}, {8, 0}, {12, 0}, {28, 0}, {229, 2}
        };
        for (int[] row : rows) {
            Check.due(row[0] + ": count(3)", row[1], taken(row[0]).count(3));
        }
        for (int d : new int[] {-1048576, -1048575, -84, -47, -4, -3, 5, 8, 12, 60, 229, 1020, 1048572, 1048573}) {
            ClassGroup group = taken(d);
            int form = d % 2 == 0 ? group.classOf(1, 0, -d / 4) : group.classOf(1, 1, (1 - d) / 4);
            Check.due(d + ": count(3)", form, group.count(3));
        }
    }

    private static ClassGroup taken(int d) {
        ClassGroup group = new ClassGroup();
        group.take(d);
        return group;
    }

    private static void takes(int d) {
        ClassGroup group = new ClassGroup();
        Check.holds("take(" + d + ")", group.take(d) > 0);
        Check.due("count(0) after take(" + d + ")", d, group.count(0));
    }

    private static void refuses(int d) {
        ClassGroup group = new ClassGroup();
        Check.illegal("take(" + d + ")", () -> group.take(d));
        Check.due("count(0) after take(" + d + ")", -4, group.count(0));
    }

    private static void refusesForm(int d, int a, int b, int c) {
        ClassGroup group = taken(d);
        Check.illegal(d + ": classOf(" + a + ", " + b + ", " + c + ")", () -> group.classOf(a, b, c));
    }

    private static void dueName(ClassGroup group, int k, int... want) {
        for (int what = 0; what < 3; what++) {
            Check.due(group.count(0) + ": name(" + k + ", " + what + ")", want[what], group.name(k, what));
        }
    }

    /** f(p x + q y, r x + s y). */
    private static int[] changed(int[] f, int[] m) {
        return new int[] {
            f[0] * m[0] * m[0] + f[1] * m[0] * m[2] + f[2] * m[2] * m[2],
            2 * f[0] * m[0] * m[1] + f[1] * (m[0] * m[3] + m[1] * m[2]) + 2 * f[2] * m[2] * m[3],
            f[0] * m[1] * m[1] + f[1] * m[1] * m[3] + f[2] * m[3] * m[3]
        };
    }

    /** The greatest number that goes into all three. */
    private static int divisor(int a, int b, int c) {
        for (int g = Math.abs(a); g > 1; g--) {
            if (a % g == 0 && b % g == 0 && c % g == 0) {
                return g;
            }
        }
        return 1;
    }
}
