import java.util.LinkedHashMap;
import java.util.Map;

/** Calls that the document refuses, whatever D is. */
final class Refusals {
    private static final int LEAST_INT = Integer.MIN_VALUE;
    private static final int GREATEST_INT = Integer.MAX_VALUE;

    /** Squares, those that are no form's, and those outside the bounds. */
    static final int[] DISCRIMINANTS = {
        0, 1, 4, 9, 16, 1046529, 1048576, 2, 3, 6, 7, 10, -1, -2, -5, -6, -9, -10,
        1048574, 1048575, 1048577, 1048580, -1048574, -1048577, -1048578, -1048579, -1048580,
        -1073741824, 1073741820, LEAST_INT, LEAST_INT + 1, GREATEST_INT, GREATEST_INT - 2
    };

    private Refusals() {
    }

    /** Refused with IllegalArgumentException. */
    static Map<String, Check.Call> illegal(ClassGroup group) {
        Map<String, Check.Call> calls = new LinkedHashMap<>();
        for (int d : DISCRIMINANTS) {
            calls.put("take(" + d + ")", () -> group.take(d));
        }
        int[][] forms = {
            {0, 0, 0}, {2, 0, 2}, {1, 1, -1073741825}, {LEAST_INT, 1, 1}, {1, GREATEST_INT, 1}, {-1, 0, -1}
        };
        for (int[] f : forms) {
            calls.put("classOf(" + f[0] + ", " + f[1] + ", " + f[2] + ")", () -> group.classOf(f[0], f[1], f[2]));
        }
        return calls;
    }

    /** Refused with IndexOutOfBoundsException, if there are so many classes and generators. */
    static Map<String, Check.Call> outOfBounds(ClassGroup group, int classes, int generators) {
        Map<String, Check.Call> calls = new LinkedHashMap<>();
        for (int k : new int[] {-1, classes, LEAST_INT, GREATEST_INT}) {
            calls.put("name(" + k + ", 0)", () -> group.name(k, 0));
            calls.put("product(" + k + ", 0)", () -> group.product(k, 0));
            calls.put("product(0, " + k + ")", () -> group.product(0, k));
            calls.put("inverse(" + k + ")", () -> group.inverse(k));
            calls.put("power(" + k + ", 2)", () -> group.power(k, 2));
            calls.put("order(" + k + ")", () -> group.order(k));
            calls.put("exponent(" + k + ", 0)", () -> group.exponent(k, 0));
        }
        for (int what : new int[] {-1, 3, LEAST_INT, GREATEST_INT}) {
            calls.put("name(0, " + what + ")", () -> group.name(0, what));
        }
        for (int i : new int[] {-1, generators, LEAST_INT, GREATEST_INT}) {
            calls.put("generator(" + i + ")", () -> group.generator(i));
            calls.put("exponent(0, " + i + ")", () -> group.exponent(0, i));
        }
        return calls;
    }
}
