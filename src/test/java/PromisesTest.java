/** Each promise by itself on ordinary inputs, the answers written down. Edges and wrong inputs: BoundsTest. */
public final class PromisesTest {
    private static final int LEAST_INT = Integer.MIN_VALUE;
    private static final int GREATEST_INT = Integer.MAX_VALUE;

    public static void main(String[] args) {
        newObject();
        take();
        count();
        name();
        classOf();
        product();
        inverse();
        power();
        order();
        generator();
        exponent();
        Check.end();
    }

    private static ClassGroup of(int d) {
        ClassGroup group = new ClassGroup();
        group.take(d);
        return group;
    }

    private static void dueCounts(String when, ClassGroup group, int... want) {
        for (int what = 0; what < want.length; what++) {
            Check.due(when + ": count(" + what + ")", want[what], group.count(what));
        }
    }

    private static void dueName(ClassGroup group, int k, int... want) {
        for (int what = 0; what < 3; what++) {
            Check.due(group.count(0) + ": name(" + k + ", " + what + ")", want[what], group.name(k, what));
        }
    }

    private static void newObject() {
        ClassGroup group = new ClassGroup();
        dueCounts("promise 1", group, -4, 1, 0, 0, 1, 1);
        dueName(group, 0, 1, 0, 1);
        Check.due("promise 1: classOf(5, 4, 1)", 0, group.classOf(5, 4, 1));
        Check.outOfBounds("promise 1: generator(0)", () -> new ClassGroup().generator(0));
        Check.outOfBounds("promise 1: exponent(0, 0)", () -> new ClassGroup().exponent(0, 0));
    }

    private static void take() {
        ClassGroup group = new ClassGroup();
        int[][] classes = {
            {-3, 1}, {-4, 1}, {-7, 1}, {-12, 1}, {-15, 2}, {-23, 3}, {-84, 4}, {-163, 1}, {-5460, 16},
            {5, 1}, {8, 1}, {12, 2}, {13, 1}, {40, 2}, {60, 4}, {79 * 4, 6}, {229, 3},
            {-1048576, 256}, {-1048575, 864}, {1048573, 1}, {1048572, 96}, {-1036031, 1908}
        };
        for (int[] row : classes) {
            Check.due("promise 2: take(" + row[0] + ")", row[1], group.take(row[0]));
            Check.due("promise 2: count(0) after it", row[0], group.count(0));
            Check.due("promise 2: count(1) after it", row[1], group.count(1));
        }
    }

    private static void count() {
        dueCounts("promise 3", of(-47), -47, 5, 1, 0, 5, 5);
        dueCounts("promise 3", of(-420), -420, 8, 3, 0, 2, 8);
        dueCounts("promise 3", of(5), 5, 1, 0, 0, 1, 2);
        dueCounts("promise 3", of(12), 12, 2, 1, 0, 2, 4);
        dueCounts("promise 3", of(1020), 1020, 8, 3, 0, 2);
        dueCounts("promise 3", of(1048573), 1048573, 1, 0, 0, 1, 1106);
        for (int what : new int[] {-1, -2, 6, 7, 100, LEAST_INT, GREATEST_INT}) {
            Check.due("promise 3: count(" + what + ")", -1, of(-47).count(what));
        }
    }

    private static void name() {
        ClassGroup group = of(-47);
        int[][] names = {{1, 1, 12}, {2, -1, 6}, {2, 1, 6}, {3, -1, 4}, {3, 1, 4}};
        for (int k = 0; k < names.length; k++) {
            dueName(group, k, names[k]);
        }
        // Both edges of the reduced forms: b = a, and a = c.
        group.take(-84);
        dueName(group, 0, 1, 0, 21);
        dueName(group, 1, 2, 2, 11);
        dueName(group, 2, 3, 0, 7);
        dueName(group, 3, 5, 4, 5);
        group.take(5);
        dueName(group, 0, -1, 1, 1);
        group.take(12);
        dueName(group, 0, -2, 2, 1);
        dueName(group, 1, -1, 2, 2);
        group.take(-1048576);
        dueName(group, 0, 1, 0, 262144);
        // The only class: one cycle of 1106 reduced forms.
        group.take(1048573);
        dueName(group, 0, -979, 971, 27);
    }

    private static void classOf() {
        ClassGroup group = of(-47);
        Check.due("promise 5: classOf(2, 1, 6)", 2, group.classOf(2, 1, 6));
        Check.due("promise 5: classOf(6, 1, 2)", 1, group.classOf(6, 1, 2));
        Check.due("promise 5: classOf(2, 5, 9)", 2, group.classOf(2, 5, 9));
        Check.due("promise 5: classOf(2, 3, 7)", 1, group.classOf(2, 3, 7));
        group.take(-84);
        Check.due("promise 5: classOf(5, -4, 5)", 3, group.classOf(5, -4, 5));
        Check.due("promise 5: classOf(2, -2, 11)", 1, group.classOf(2, -2, 11));
        group.take(12);
        Check.due("promise 5: classOf(1, 0, -3)", 0, group.classOf(1, 0, -3));
        Check.due("promise 5: classOf(-1, 0, 3)", 1, group.classOf(-1, 0, 3));
        Check.due("promise 5: classOf(3, 0, -1)", 1, group.classOf(3, 0, -1));
        Check.due("promise 5: classOf(-3, 0, 1)", 0, group.classOf(-3, 0, 1));
    }

    private static void product() {
        ClassGroup group = of(-47);
        int[][] table = {{0, 1, 2, 3, 4}, {1, 4, 0, 2, 3}, {2, 0, 3, 4, 1}, {3, 2, 4, 1, 0}, {4, 3, 1, 0, 2}};
        for (int j = 0; j < 5; j++) {
            for (int k = 0; k < 5; k++) {
                Check.due("promise 6: product(" + j + ", " + k + ")", table[j][k], group.product(j, k));
            }
        }
        // e is above 1 here: (2, 2, 11) by itself, and (3, 0, 7) by itself.
        group.take(-84);
        for (int k = 0; k < 4; k++) {
            Check.due("promise 6: product(" + k + ", " + k + ")", 0, group.product(k, k));
        }
        Check.due("promise 6: product(1, 2)", 3, group.product(1, 2));
        group.take(12);
        Check.due("promise 6: product(1, 1)", 0, group.product(1, 1));
        Check.due("promise 6: product(0, 1)", 1, group.product(0, 1));
    }

    private static void inverse() {
        ClassGroup group = of(-47);
        int[] inverses = {0, 2, 1, 4, 3};
        for (int k = 0; k < 5; k++) {
            Check.due("promise 7: inverse(" + k + ")", inverses[k], group.inverse(k));
        }
        group.take(229);
        int[] positive = {1, 0, 2};
        for (int k = 0; k < 3; k++) {
            Check.due("promise 7: inverse(" + k + ")", positive[k], group.inverse(k));
        }
    }

    private static void power() {
        ClassGroup group = of(-47);
        int[] powers = {0, 1, 4, 3, 2};
        for (int n = -12; n <= 12; n++) {
            Check.due("promise 8: power(1, " + n + ")", powers[Math.floorMod(n, 5)], group.power(1, n));
            Check.due("promise 8: power(0, " + n + ")", 0, group.power(0, n));
        }
        for (int n : new int[] {LEAST_INT, LEAST_INT + 1, GREATEST_INT, GREATEST_INT - 1}) {
            Check.due("promise 8: power(1, " + n + ")", powers[Math.floorMod(n, 5)], group.power(1, n));
        }
        group.take(229);
        Check.due("promise 8: power(0, 0)", 2, group.power(0, 0));
        Check.due("promise 8: power(0, 2)", 1, group.power(0, 2));
        Check.due("promise 8: power(0, -1)", 1, group.power(0, -1));
        Check.due("promise 8: power(0, least)", 0, group.power(0, LEAST_INT));
    }

    private static void order() {
        ClassGroup group = of(-47);
        for (int k = 0; k < 5; k++) {
            Check.due("promise 9: order(" + k + ")", k == 0 ? 1 : 5, group.order(k));
        }
        group.take(-23 * 16);
        int[] orders = new int[group.count(1)];
        for (int k = 0; k < orders.length; k++) {
            orders[k] = group.order(k);
            Check.due("promise 9: its power", group.count(3), group.power(k, orders[k]));
            for (int n = 1; n < orders[k]; n++) {
                Check.holds("promise 9: no lesser power", group.power(k, n) != group.count(3));
            }
        }
        group.take(229);
        Check.due("promise 9: order(0)", 3, group.order(0));
        Check.due("promise 9: order(2)", 1, group.order(2));
    }

    private static void generator() {
        ClassGroup group = of(-420);
        for (int i = 0; i < 3; i++) {
            Check.due("promise 10: generator(" + i + ")", i + 1, group.generator(i));
        }
        group.take(-3299);
        Check.due("promise 10: generator(0)", 1, group.generator(0));
        Check.due("promise 10: generator(1)", 7, group.generator(1));
        // Classes 5 and 6 have order 4 too, and generator 0 does not make them, but it makes their squares.
        group.take(-1056);
        int[] generators = {3, 1, 7};
        for (int i = 0; i < 3; i++) {
            Check.due("promise 10: generator(" + i + ")", generators[i], group.generator(i));
        }
        group.take(229);
        Check.due("promise 10: generator(0)", 0, group.generator(0));
        for (int i : new int[] {-1, 1, 2, 10, 11, LEAST_INT, GREATEST_INT}) {
            Check.outOfBounds("promise 10: generator(" + i + ")", () -> group.generator(i));
        }
    }

    private static void exponent() {
        ClassGroup group = of(-47);
        int[] exponents = {0, 1, 4, 3, 2};
        for (int k = 0; k < 5; k++) {
            Check.due("promise 11: exponent(" + k + ", 0)", exponents[k], group.exponent(k, 0));
        }
        group.take(-84);
        int[][] two = {{0, 0}, {1, 0}, {0, 1}, {1, 1}};
        for (int k = 0; k < 4; k++) {
            for (int i = 0; i < 2; i++) {
                Check.due("promise 11: exponent(" + k + ", " + i + ")", two[k][i], group.exponent(k, i));
            }
        }
        for (int i : new int[] {-1, 2, 10, 11, LEAST_INT, GREATEST_INT}) {
            Check.outOfBounds("promise 11: exponent(1, " + i + ")", () -> group.exponent(1, i));
            Check.outOfBounds("promise 11: exponent(4, " + i + ")", () -> group.exponent(4, i));
        }
    }
}
