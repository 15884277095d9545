import java.util.ArrayList;
import java.util.Arrays;
import java.util.Comparator;
import java.util.HashMap;
import java.util.HashSet;
import java.util.List;
import java.util.Map;
import java.util.Set;

/**
 * The document's terms, word for word and slowly. Classes are found by joining each form to those that x, y
 * to -y, x and x, y to x + y, y make of it (these two make every p, q, r, s); products by trying every b.
 */
final class Oracle {
    final int d;
    /** The names in their order. */
    final List<long[]> names = new ArrayList<>();
    /** All forms whose |b| is at most widest. */
    final List<long[]> forms = new ArrayList<>();
    int reducedForms = 0;
    private final long widest;
    private final Map<List<Long>, Integer> places = new HashMap<>();
    private final int[] joined;
    private final Map<Integer, Integer> classOfRoot = new HashMap<>();
    private final Map<List<Integer>, Integer> products = new HashMap<>();

    Oracle(int d) {
        this.d = d;
        widest = (long) Math.sqrt(Math.abs((double) d)) + 2;
        for (long b = -widest; b <= widest; b++) {
            collect(b);
        }
        joined = new int[forms.size()];
        for (int i = 0; i < joined.length; i++) {
            joined[i] = i;
        }
        for (long[] f : forms) {
            join(f, new long[] {f[2], -f[1], f[0]});
            join(f, new long[] {f[0], f[1] + 2 * f[0], f[0] + f[1] + f[2]});
        }
        nameClasses();
    }

    static boolean canBeTaken(int d) {
        if (d < -1048576 || d > 1048576) {
            return false;
        }
        boolean someForms = false;
        for (int b = 0; b < 2; b++) {
            someForms |= (b * b - (long) d) % 4 == 0;
        }
        for (long r = 0; r * r <= d; r++) {
            if (r * r == d) {
                return false;
            }
        }
        return someForms;
    }

    int classes() {
        return names.size();
    }

    int principal() {
        return d % 2 == 0 ? classOf(1, 0, -d / 4) : classOf(1, 1, (1 - d) / 4);
    }

    int classOf(long a, long b, long c) {
        long[] f = {a, b, c};
        for (int n = 0; n < 1000; n++) {
            Integer place = places.get(List.of(f[0], f[1]));
            if (place != null) {
                return classOfRoot.get(rootOf(place));
            }
            long near = Math.floorMod(f[1], 2 * Math.abs(f[0]));
            if (near > Math.abs(f[0])) {
                near -= 2 * Math.abs(f[0]);
            }
            if (near == f[1]) {
                f = new long[] {f[2], -f[1], f[0]};
            } else {
                f = new long[] {f[0], near, (near * near - d) / (4 * f[0])};
            }
        }
        throw new IllegalStateException("no class for " + Arrays.toString(f));
    }

    int product(int j, int k) {
        return products.computeIfAbsent(List.of(j, k), key -> productOf(names.get(j), names.get(k)));
    }

    /** The class of the product of two forms of D, whether they are names or not. */
    int productOf(long[] f, long[] g) {
        long e = divides(f[0], g[0], (f[1] + g[1]) / 2);
        long a = f[0] * g[0] / (e * e);
        for (long b = 0; b < 2 * Math.abs(a); b++) {
            if ((b - f[1]) % (2 * f[0] / e) == 0
                    && (b - g[1]) % (2 * g[0] / e) == 0
                    && ((f[1] + g[1]) / (2 * e) * b - (f[1] * g[1] + d) / (2 * e)) % (2 * a) == 0) {
                return classOf(a, b, (b * b - d) / (4 * a));
            }
        }
        throw new IllegalStateException("no b for " + Arrays.toString(f) + " and " + Arrays.toString(g));
    }

    int inverse(int k) {
        for (int j = 0; j < classes(); j++) {
            if (product(j, k) == principal()) {
                return j;
            }
        }
        throw new IllegalStateException("no inverse of " + k);
    }

    int power(int k, int n) {
        int factor = n < 0 ? inverse(k) : k;
        int x = principal();
        for (int i = 0; i < Math.abs(n); i++) {
            x = product(x, factor);
        }
        return x;
    }

    int order(int k) {
        int n = 1;
        for (int x = k; x != principal(); x = product(x, k)) {
            n++;
        }
        return n;
    }

    int greatestOrder() {
        int greatest = 0;
        for (int k = 0; k < classes(); k++) {
            greatest = Math.max(greatest, order(k));
        }
        return greatest;
    }

    List<Integer> generators() {
        List<Integer> found = new ArrayList<>();
        for (int g = nextGenerator(found); g >= 0; g = nextGenerator(found)) {
            found.add(g);
        }
        return found;
    }

    /** Every product of powers of the generators, with its exponents. */
    Map<Integer, List<Integer>> exponents(List<Integer> generators) {
        Map<Integer, List<Integer>> all = new HashMap<>();
        all.put(principal(), List.of());
        for (int g : generators) {
            Map<Integer, List<Integer>> more = new HashMap<>();
            for (Map.Entry<Integer, List<Integer>> entry : all.entrySet()) {
                for (int n = 0; n < order(g); n++) {
                    List<Integer> longer = new ArrayList<>(entry.getValue());
                    longer.add(n);
                    more.put(product(entry.getKey(), power(g, n)), longer);
                }
            }
            all = more;
        }
        return all;
    }

    private int nextGenerator(List<Integer> before) {
        Set<Integer> made = exponents(before).keySet();
        int best = -1;
        for (int k = 0; k < classes(); k++) {
            if (k != principal() && isFree(k, made) && (best < 0 || order(k) > order(best))) {
                best = k;
            }
        }
        return best;
    }

    private boolean isFree(int k, Set<Integer> made) {
        Set<Integer> powers = new HashSet<>();
        for (int n = 0; n < order(k); n++) {
            powers.add(power(k, n));
        }
        powers.remove(principal());
        powers.retainAll(made);
        return powers.isEmpty();
    }

    private void collect(long b) {
        if ((b * b - d) % 4 != 0) {
            return;
        }
        long ac = (b * b - d) / 4;
        for (long divisor = 1; divisor * divisor <= Math.abs(ac); divisor++) {
            if (ac % divisor == 0) {
                add(divisor, b, ac / divisor);
                add(-divisor, b, -ac / divisor);
                if (divisor * divisor != Math.abs(ac)) {
                    add(ac / divisor, b, divisor);
                    add(-ac / divisor, b, -divisor);
                }
            }
        }
    }

    private void add(long a, long b, long c) {
        if (divides(a, b, c) == 1 && (d > 0 || a > 0)) {
            places.put(List.of(a, b), forms.size());
            forms.add(new long[] {a, b, c});
        }
    }

    /** The greatest number that goes into all of them. */
    private static long divides(long... numbers) {
        long greatest = 0;
        for (long x : numbers) {
            long y = Math.abs(x);
            while (y != 0) {
                long rest = greatest % y;
                greatest = y;
                y = rest;
            }
        }
        return greatest;
    }

    private void join(long[] f, long[] g) {
        Integer other = places.get(List.of(g[0], g[1]));
        if (other != null) {
            joined[rootOf(places.get(List.of(f[0], f[1])))] = rootOf(other);
        }
    }

    private int rootOf(int place) {
        int root = place;
        while (joined[root] != root) {
            root = joined[root];
        }
        joined[place] = root;
        return root;
    }

    private void nameClasses() {
        List<long[]> sorted = new ArrayList<>();
        for (long[] f : forms) {
            if (isReduced(f[0], f[1], f[2])) {
                sorted.add(f);
            }
        }
        reducedForms = sorted.size();
        sorted.sort(Comparator.<long[]>comparingLong(f -> f[0]).thenComparingLong(f -> f[1]));
        for (long[] f : sorted) {
            int root = rootOf(places.get(List.of(f[0], f[1])));
            if (!classOfRoot.containsKey(root)) {
                classOfRoot.put(root, names.size());
                names.add(f);
            }
        }
    }

    private boolean isReduced(long a, long b, long c) {
        if (d < 0) {
            boolean edge = Math.abs(b) == a || a == c;
            return Math.abs(b) <= a && a <= c && !(edge && b < 0);
        }
        double r = Math.sqrt((double) d);
        return 0 < b && b < r && r - b < 2 * Math.abs(a) && 2 * Math.abs(a) < r + b;
    }
}
