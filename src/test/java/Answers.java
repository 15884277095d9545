import java.util.ArrayList;
import java.util.List;
import java.util.Map;

/** All that the methods tell of one D, each answer with its call, for a D with few classes. */
final class Answers {
    private static final int[] POWERS = {-2, -1, 0, 1, 2, 3};

    private Answers() {
    }

    static List<String> of(ClassGroup group) {
        List<String> all = new ArrayList<>();
        for (int what = -1; what <= 6; what++) {
            all.add("count(" + what + ") " + group.count(what));
        }
        int classes = group.count(1);
        int generators = group.count(2);
        for (int k = 0; k < classes; k++) {
            all.add("name(" + k + ") " + group.name(k, 0) + " " + group.name(k, 1) + " " + group.name(k, 2));
            all.add("classOf its name " + group.classOf(group.name(k, 0), group.name(k, 1), group.name(k, 2)));
            all.add("inverse(" + k + ") " + group.inverse(k));
            all.add("order(" + k + ") " + group.order(k));
            for (int j = 0; j < classes; j++) {
                all.add("product(" + j + ", " + k + ") " + group.product(j, k));
            }
            for (int n : POWERS) {
                all.add("power(" + k + ", " + n + ") " + group.power(k, n));
            }
            for (int i = 0; i < generators; i++) {
                all.add("exponent(" + k + ", " + i + ") " + group.exponent(k, i));
            }
        }
        for (int i = 0; i < generators; i++) {
            all.add("generator(" + i + ") " + group.generator(i));
        }
        return all;
    }

    static List<String> due(Oracle oracle) {
        List<Integer> generators = oracle.generators();
        Map<Integer, List<Integer>> exponents = oracle.exponents(generators);
        List<String> all = new ArrayList<>();
        int[] counts = {
            -1, oracle.d, oracle.classes(), generators.size(), oracle.principal(), oracle.greatestOrder(),
            oracle.reducedForms, -1
        };
        for (int what = -1; what <= 6; what++) {
            all.add("count(" + what + ") " + counts[what + 1]);
        }
        for (int k = 0; k < oracle.classes(); k++) {
            long[] f = oracle.names.get(k);
            all.add("name(" + k + ") " + f[0] + " " + f[1] + " " + f[2]);
            all.add("classOf its name " + k);
            all.add("inverse(" + k + ") " + oracle.inverse(k));
            all.add("order(" + k + ") " + oracle.order(k));
            for (int j = 0; j < oracle.classes(); j++) {
                all.add("product(" + j + ", " + k + ") " + oracle.product(j, k));
            }
            for (int n : POWERS) {
                all.add("power(" + k + ", " + n + ") " + oracle.power(k, n));
            }
            for (int i = 0; i < generators.size(); i++) {
                all.add("exponent(" + k + ", " + i + ") " + exponents.get(k).get(i));
            }
        }
        for (int i = 0; i < generators.size(); i++) {
            all.add("generator(" + i + ") " + generators.get(i));
        }
        return all;
    }

    static void compare(String when, List<String> due, ClassGroup group) {
        List<String> got = of(group);
        Check.due(when + ": how many answers", due.size(), got.size());
        for (int i = 0; i < Math.min(due.size(), got.size()); i++) {
            Check.holds(when + ": " + due.get(i) + ", not " + got.get(i), due.get(i).equals(got.get(i)));
        }
    }
}
