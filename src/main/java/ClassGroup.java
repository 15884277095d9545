import java.util.Arrays;

/**
 * The classes of primitive forms of a discriminant, and the group that they make: names, products,
 * orders, generators.
 */
public final class ClassGroup {
    private static final int GREATEST_D = 1048576;
    private static final int GREATEST_COEFFICIENT = 1073741824;

    /** No D that can be taken has more classes than -1036031. */
    private static final int MOST_CLASSES = 1908;

    /** The orders of the generators multiply to the number of classes, which is below 2 to the 11th. */
    private static final int MOST_GENERATORS = 11;

    /** Far above what any chain of divisions or any cycle of reduced forms needs. */
    private static final int MOST_STEPS = 1000000;

    /** Above twice any |b| of a reduced form, so that keys stand in the order of a, then of b. */
    private static final int KEYS_PER_A = 4096;

    private int d;
    /** The greatest whole number below R; 0 if D is below 0. */
    private int root;
    private int classes;
    private int reducedForms;
    private int principal;
    /** The keys of the names, rising. */
    private final int[] names = new int[MOST_CLASSES];

    /** Whether what follows belongs to this D: it is worked out when it is first asked for. */
    private boolean groupKnown;
    private int greatestOrder;
    private int generatorCount;
    private final int[] generators = new int[MOST_GENERATORS];
    /** How many classes the generators before this one make; behind the last one's, how many all make. */
    private final int[] strides = new int[MOST_GENERATORS + 1];
    private final int[] orders = new int[MOST_CLASSES];
    /** The exponents of a class, each times its generator's stride, summed; -1 while it is not reached. */
    private final int[] codes = new int[MOST_CLASSES];
    /** The class of each code; before the generators are sought, the powers of one class. */
    private final int[] elements = new int[MOST_CLASSES];

    private final Form one = new Form();
    private final Form two = new Form();
    private final Bezout bezout = new Bezout();

    public ClassGroup() {
        become(-4);
    }

    public int take(int d) throws IllegalArgumentException {
        if (!canBeTaken(d)) {
            throw new IllegalArgumentException("this discriminant can't be taken");
        }
        become(d);
        return classes;
    }

    public int count(int what) {
        switch (what) {
            case 0:
                return d;
            case 1:
                return classes;
            case 2:
                learnGroup();
                return generatorCount;
            case 3:
                return principal;
            case 4:
                learnGroup();
                return greatestOrder;
            case 5:
                return reducedForms;
            default:
                return -1;
        }
    }

    public int name(int k, int what) throws IndexOutOfBoundsException {
        if (!isClass(k) || what < 0 || what > 2) {
            throw new IndexOutOfBoundsException("no such class or coefficient");
        }
        setToName(one, k);
        return (int) (what == 0 ? one.a : what == 1 ? one.b : one.c);
    }

    public int classOf(int a, int b, int c) throws IllegalArgumentException {
        if (!isForm(a, b, c)) {
            throw new IllegalArgumentException("no form of this discriminant");
        }
        one.set(a, b, c);
        reduce(one);
        return classAt(leastKey(one));
    }

    public int product(int j, int k) throws IndexOutOfBoundsException {
        if (!isClass(j) || !isClass(k)) {
            throw new IndexOutOfBoundsException("no such class");
        }
        return multiply(j, k);
    }

    public int inverse(int k) throws IndexOutOfBoundsException {
        if (!isClass(k)) {
            throw new IndexOutOfBoundsException("no such class");
        }
        setToName(one, k);
        one.set(one.a, -one.b, one.c);
        reduce(one);
        return classAt(leastKey(one));
    }

    public int power(int k, int n) throws IndexOutOfBoundsException {
        if (!isClass(k)) {
            throw new IndexOutOfBoundsException("no such class");
        }
        setToName(one, principal);
        setToName(two, k);
        if (n < 0) {
            two.set(two.a, -two.b, two.c);
        }
        for (long left = Math.abs((long) n); left > 0; left >>= 1) {
            if ((left & 1) == 1) {
                compose(one, two);
                reduce(one);
            }
            compose(two, two);
            reduce(two);
        }
        return classAt(leastKey(one));
    }

    public int order(int k) throws IndexOutOfBoundsException {
        if (!isClass(k)) {
            throw new IndexOutOfBoundsException("no such class");
        }
        learnGroup();
        return orders[k];
    }

    public int generator(int i) throws IndexOutOfBoundsException {
        learnGroup();
        if (!isGenerator(i)) {
            throw new IndexOutOfBoundsException("no such generator");
        }
        return generators[i];
    }

    public int exponent(int k, int i) throws IndexOutOfBoundsException {
        learnGroup();
        if (!isClass(k) || !isGenerator(i)) {
            throw new IndexOutOfBoundsException("no such class or generator");
        }
        int stride = strides[i];
        int next = strides[i + 1];
        return stride == 0 || next == 0 ? 0 : codes[k] % next / stride;
    }

    private boolean isClass(int k) {
        return k >= 0 && k < classes;
    }

    private boolean isGenerator(int i) {
        return i >= 0 && i < generatorCount;
    }

    private boolean isForm(int a, int b, int c) {
        return isCoefficient(a) && isCoefficient(b) && isCoefficient(c)
                && (long) b * b - 4L * a * c == d
                && (d > 0 || a > 0)
                && isPrimitive(a, b, c);
    }

    private static boolean isCoefficient(int x) {
        return x >= -GREATEST_COEFFICIENT && x <= GREATEST_COEFFICIENT;
    }

    private static boolean isPrimitive(int a, int b, int c) {
        return greatestDivisor(greatestDivisor(a, b), c) == 1;
    }

    private static int greatestDivisor(int x, int y) {
        int greater = Math.abs(x);
        int less = Math.abs(y);
        for (int n = 0; n < MOST_STEPS && less != 0; n++) {
            int rest = greater % less;
            greater = less;
            less = rest;
        }
        return greater;
    }

    private static boolean canBeTaken(int d) {
        if (d < -GREATEST_D || d > GREATEST_D || Math.floorMod(d, 4) > 1) {
            return false;
        }
        int r = rootOf(d);
        return r * r != d;
    }

    /** The greatest whole number whose square is not above x; 0 if x is below 0. */
    private static int rootOf(int x) {
        int r = 0;
        for (int bit = 1024; bit > 0; bit >>= 1) {
            if ((r + bit) * (r + bit) <= x) {
                r += bit;
            }
        }
        return r;
    }

    private void become(int newD) {
        d = newD;
        root = rootOf(newD);
        classes = 0;
        reducedForms = 0;
        groupKnown = false;
        if (newD < 0) {
            nameDefinite();
        } else {
            nameIndefinite();
        }
        int b = newD & 1;
        one.set(1, b, (b - newD) / 4);
        reduce(one);
        principal = classAt(leastKey(one));
    }

    /** D below 0: every reduced form is a name. */
    private void nameDefinite() {
        for (int a = 1; 3 * a * a <= -d; a++) {
            for (int b = firstLikeD(0); b <= a; b += 2) {
                int fourAC = b * b - d;
                if (fourAC % (4 * a) == 0) {
                    keepDefinite(a, b, fourAC / (4 * a));
                }
            }
        }
    }

    private void keepDefinite(int a, int b, int c) {
        if (a > c || !isPrimitive(a, b, c)) {
            return;
        }
        reducedForms++;
        addName(a, b);
        if (b > 0 && b < a && a < c) {
            reducedForms++;
            addName(a, -b);
        }
    }

    /**
     * D above 0: a's sign alternates along a cycle, so that every name has an a below 0. If one of two
     * numbers that multiply to (D - b b) / 4 is fit for |a|, so is the other: the lesser ones tell all.
     */
    private void nameIndefinite() {
        for (int b = firstLikeD(1); b <= root; b += 2) {
            int ac = (d - b * b) / 4;
            for (int size = (root - b) / 2 + 1; size * size <= ac; size++) {
                if (ac % size == 0) {
                    keepIndefinite(size, b, ac / size);
                }
            }
        }
    }

    private void keepIndefinite(int lesser, int b, int greater) {
        if (!isPrimitive(lesser, b, greater)) {
            return;
        }
        // (a, b, c) and (-a, b, -c) are both reduced, but only one of them can be a name.
        reducedForms += 2;
        addNameIfLeast(-lesser, b, greater);
        if (lesser < greater) {
            reducedForms += 2;
            addNameIfLeast(-greater, b, lesser);
        }
    }

    private void addNameIfLeast(int a, int b, int c) {
        one.set(a, b, c);
        if (isLeastOfCycle(one)) {
            addName(a, b);
        }
    }

    /** The least number not below x that is even or odd as D is, and so may be a b. */
    private int firstLikeD(int x) {
        return x + ((x ^ d) & 1);
    }

    private void addName(int a, int b) {
        if (classes >= MOST_CLASSES) {
            return;
        }
        int key = a * KEYS_PER_A + b;
        int k = classes;
        for (; k > 0 && names[k - 1] > key; k--) {
            names[k] = names[k - 1];
        }
        names[k] = key;
        classes++;
    }

    private void setToName(Form f, int k) {
        if (!isClass(k)) {
            return;
        }
        int key = names[k];
        int a = Math.floorDiv(key + KEYS_PER_A / 2, KEYS_PER_A);
        int b = key - a * KEYS_PER_A;
        if (a != 0) {
            f.set(a, b, (b * b - d) / (4 * a));
        }
    }

    private static int keyOf(Form f) {
        return (int) f.a * KEYS_PER_A + (int) f.b;
    }

    /** The class whose name has this key; -1 if there is none. */
    private int classAt(int key) {
        int k = -1;
        for (int bit = 1024; bit > 0; bit >>= 1) {
            if (k + bit < classes && names[k + bit] <= key) {
                k += bit;
            }
        }
        return isClass(k) && names[k] == key ? k : -1;
    }

    private boolean isReduced(Form f) {
        if (d < 0) {
            return Math.abs(f.b) <= f.a && f.a <= f.c && (f.b >= 0 || (-f.b < f.a && f.a < f.c));
        }
        long twice = 2 * Math.abs(f.a);
        return f.b > 0 && f.b <= root && twice + f.b > root && twice - f.b <= root;
    }

    private void reduce(Form f) {
        for (int n = 0; n < MOST_STEPS && !isReduced(f); n++) {
            step(f);
        }
    }

    /**
     * From (a, b, c) to a form (c, x, y) of its class: nearer to a reduced one, or, D above 0, from a
     * reduced one to the next of its cycle.
     */
    private void step(Form f) {
        long size = Math.abs(f.c);
        if (size == 0) {
            return;
        }
        long top = d > 0 && size <= root ? root : size;
        long b = top - Math.floorMod(top + f.b, 2 * size);
        f.set(f.c, b, (b * b - d) / (4 * f.c));
    }

    /** Whether no form of a reduced form's cycle has a lesser key; f walks on. D is above 0. */
    private boolean isLeastOfCycle(Form f) {
        int start = keyOf(f);
        for (int n = 0; n < MOST_STEPS; n++) {
            step(f);
            int key = keyOf(f);
            if (key <= start) {
                return key == start;
            }
        }
        return false;
    }

    /** The key of the name of a reduced form's class; f walks once round its cycle. */
    private int leastKey(Form f) {
        int start = keyOf(f);
        int least = start;
        if (d < 0) {
            return least;
        }
        for (int n = 0; n < MOST_STEPS; n++) {
            step(f);
            int key = keyOf(f);
            if (key == start) {
                break;
            }
            least = Math.min(least, key);
        }
        return least;
    }

    private int multiply(int j, int k) {
        setToName(one, j);
        setToName(two, k);
        compose(one, two);
        reduce(one);
        return classAt(leastKey(one));
    }

    /** f becomes a form, not reduced, of the product of the classes of f and g. */
    private void compose(Form f, Form g) {
        bezout.solve(f.a, g.a);
        long p = bezout.first;
        long q = bezout.second;
        bezout.solve(bezout.greatest, (f.b + g.b) / 2);
        long e = bezout.greatest;
        if (e == 0) {
            return;
        }
        // e = u f.a + v g.a + w (f.b + g.b) / 2 makes this b meet all three conditions of the product.
        long u = bezout.first * p;
        long v = bezout.first * q;
        long w = bezout.second;
        long a = f.a / e * (g.a / e);
        long b = (u * f.a * g.b + v * g.a * f.b + w * ((f.b * g.b + d) / 2)) / e;
        if (a != 0) {
            b = Math.floorMod(b, 2 * Math.abs(a));
            f.set(a, b, (b * b - d) / (4 * a));
        }
    }

    private void learnGroup() {
        if (groupKnown) {
            return;
        }
        groupKnown = true;
        learnOrders();
        Arrays.fill(codes, -1);
        elements[0] = principal;
        if (isClass(principal)) {
            codes[principal] = 0;
        }
        generatorCount = 0;
        strides[0] = 1;
        for (int i = 0; i < MOST_GENERATORS && strides[i] < classes; i++) {
            int g = nextGenerator(strides[i]);
            if (!isClass(g)) {
                return;
            }
            generators[i] = g;
            generatorCount = i + 1;
            strides[i + 1] = reachWith(g, strides[i]);
        }
    }

    private void learnOrders() {
        Arrays.fill(orders, 0);
        greatestOrder = 1;
        for (int k = 0; k < classes; k++) {
            if (orders[k] == 0) {
                learnOrdersOfPowers(k);
            }
        }
    }

    private void learnOrdersOfPowers(int k) {
        int n = 0;
        int x = principal;
        do {
            elements[n] = x;
            n++;
            x = multiply(x, k);
        } while (x != principal && n < classes);
        for (int i = 0; i < n; i++) {
            if (isClass(elements[i])) {
                orders[elements[i]] = n / Math.max(1, greatestDivisor(n, i));
            }
        }
        greatestOrder = Math.max(greatestOrder, n);
    }

    /** The next generator, when those before it make so many classes; -1 if there is none. */
    private int nextGenerator(int reached) {
        if (reached <= 0) {
            return -1;
        }
        int left = classes / reached;
        // The order of a class no power of which is reached goes into the number of the cosets.
        for (int n = left; n > 1; n--) {
            for (int k = 0; k < classes && left % n == 0; k++) {
                if (orders[k] == n && isIndependent(k)) {
                    return k;
                }
            }
        }
        return -1;
    }

    /** Whether no power of a class but the principal class is reached. */
    private boolean isIndependent(int k) {
        int x = k;
        for (int n = 1; n < orders[k]; n++) {
            if (!isClass(x) || codes[x] >= 0) {
                return false;
            }
            x = multiply(x, k);
        }
        return true;
    }

    /** Reaches the products of the classes reached before and the powers of g: how many there are now. */
    private int reachWith(int g, int reached) {
        int now = Math.min(reached * orders[g], classes);
        for (int code = reached; code < now; code++) {
            int x = multiply(elements[code - reached], g);
            elements[code] = x;
            if (isClass(x)) {
                codes[x] = code;
            }
        }
        return now;
    }

    /** a x x + b x y + c y y. */
    private static final class Form {
        long a;
        long b;
        long c;

        void set(long newA, long newB, long newC) {
            a = newA;
            b = newB;
            c = newC;
        }
    }

    /** The greatest number that goes into x and y, as first x + second y. */
    private static final class Bezout {
        long greatest;
        long first;
        long second;

        void solve(long x, long y) {
            greatest = x;
            first = 1;
            second = 0;
            long rest = y;
            long restFirst = 0;
            long restSecond = 1;
            for (int n = 0; n < MOST_STEPS && rest != 0; n++) {
                long q = greatest / rest;
                long nextRest = greatest - q * rest;
                long nextFirst = first - q * restFirst;
                long nextSecond = second - q * restSecond;
                greatest = rest;
                first = restFirst;
                second = restSecond;
                rest = nextRest;
                restFirst = nextFirst;
                restSecond = nextSecond;
            }
            if (greatest < 0) {
                greatest = -greatest;
                first = -first;
                second = -second;
            }
        }
    }
}
