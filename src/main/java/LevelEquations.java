import java.util.Arrays;

/**
 * Modular equations: power series in q modulo a prime, the q-expansion of the modular invariant j,
 * polynomials in two variables that vanish on two series, graphs of their zeros, and polynomials
 * over the integers from several primes.
 */
public final class LevelEquations {
    public static final int NONE = -1, BAD = -2, STATE = -3, NOT = -5, MISSING = -11;
    public static final long NO = Long.MIN_VALUE;

    private static final int NO_INDEX = -13, NEGATIVE_LENGTH = -14, SYNTAX = -100;
    private static final int FIRST_MODULUS = 101, LEAST_MODULUS = 5, GREATEST_MODULUS = 199;
    private static final int SERIES = 6, PLACES = 8, LISTS = 4;
    private static final int LONGEST = 80, FARTHEST_START = 99, START_SHIFT = 1000;
    private static final int GREATEST_DEGREE = 8, WIDTH = GREATEST_DEGREE + 1, TERMS = WIDTH * WIDTH;
    private static final int GREATEST_POWER = 9, GREATEST_STRETCH = 9;
    private static final int TAPE = 100, GREATEST_LETTER = 127;

    private final Contents now = new Contents();
    private final Contents saved = new Contents();
    private boolean hasImage;
    private final SeriesMath math = new SeriesMath();
    private final Vanishing vanishing = new Vanishing();
    private final Finder finder = new Finder();
    private final Graph graph = new Graph();
    private final Tape tape = new Tape();
    private final Program program = new Program();
    private final PolynomialText text = new PolynomialText();
    private final int[][] lists = new int[LISTS][LONGEST];
    /** -1 for a missing list, since a list that holds 0 numbers is not missing. */
    private final int[] listLengths = new int[LISTS];

    public LevelEquations() {
        Arrays.fill(listLengths, -1);
    }

    // ---- the modulus and series

    public int prime(int p) {
        if (!isModulus(p)) {
            return BAD;
        }
        int previous = now.modulus;
        now.startAnew(p);
        graph.forget();
        return previous;
    }

    public int j(int series, int n) {
        if (!isSeries(series)) {
            return NONE;
        }
        if (n < 1 || n > LONGEST) {
            return BAD;
        }
        math.makeInvariant(now.series[series], n, now.modulus);
        return n;
    }

    public int tell(int series, int list, int start) {
        if (!isSeries(series) || !isList(list)) {
            return NONE;
        }
        if (isTooFar(start)) {
            return BAD;
        }
        int n = listLengths[list];
        if (n < 0) {
            return MISSING;
        }
        if (n == 0) {
            return STATE;
        }
        math.reduce(lists[list], now.series[series], start, n, now.modulus);
        return n;
    }

    public int sum(int a, int b, int to) {
        if (!isSeries(a) || !isSeries(b) || !isSeries(to)) {
            return NONE;
        }
        if (now.series[a].isMissing() || now.series[b].isMissing()) {
            return MISSING;
        }
        math.add(now.series[a], now.series[b], now.series[to], now.modulus);
        return now.series[to].length;
    }

    public int times(int a, int b, int to) {
        if (!isSeries(a) || !isSeries(b) || !isSeries(to)) {
            return NONE;
        }
        Series first = now.series[a];
        Series second = now.series[b];
        if (first.isMissing() || second.isMissing()) {
            return MISSING;
        }
        if (isTooFar(first.start + second.start)) {
            return STATE;
        }
        math.makeProduct(first, second, now.series[to], now.modulus);
        return now.series[to].length;
    }

    public int stretch(int a, int m, int to) {
        if (!isSeries(a) || !isSeries(to)) {
            return NONE;
        }
        if (m < 1 || m > GREATEST_STRETCH) {
            return BAD;
        }
        if (now.series[a].isMissing()) {
            return MISSING;
        }
        if (isTooFar(now.series[a].start * m)) {
            return STATE;
        }
        math.widen(now.series[a], m, now.series[to]);
        return now.series[to].length;
    }

    public int over(int a, int to) {
        if (!isSeries(a) || !isSeries(to)) {
            return NONE;
        }
        if (now.series[a].isMissing()) {
            return MISSING;
        }
        if (now.series[a].coefficients[0] == 0) {
            return STATE;
        }
        math.makeReciprocal(now.series[a], now.series[to], now.modulus);
        return now.series[to].length;
    }

    public int power(int a, int n, int to) {
        if (!isSeries(a) || !isSeries(to)) {
            return NONE;
        }
        if (n < 0 || n > GREATEST_POWER) {
            return BAD;
        }
        if (now.series[a].isMissing()) {
            return MISSING;
        }
        if (isTooFar(now.series[a].start * n)) {
            return STATE;
        }
        math.makePower(now.series[a], n, now.series[to], now.modulus);
        return now.series[to].length;
    }

    public int of(int series, int what) {
        if (!isSeries(series) || what < 0 || what > 2) {
            return NONE;
        }
        Series asked = now.series[series];
        if (asked.isMissing()) {
            return MISSING;
        }
        if (what == 0) {
            return asked.start + START_SHIFT;
        }
        if (what == 1) {
            return asked.length;
        }
        int first = asked.firstNonzero();
        return first < 0 ? NOT : asked.start + first + START_SHIFT;
    }

    public int coefficient(int series, int e) {
        if (!isSeries(series)) {
            return NONE;
        }
        if (now.series[series].isMissing()) {
            return MISSING;
        }
        return e > now.series[series].last() ? NOT : now.series[series].valueOf(e);
    }

    // ---- polynomials

    public int find(int a, int b, int d, int way) {
        if (!isSeries(a) || !isSeries(b)) {
            return NONE;
        }
        if (d < 1 || d > GREATEST_DEGREE || way < 0 || way > 1) {
            return BAD;
        }
        if (now.series[a].isMissing() || now.series[b].isMissing()) {
            return MISSING;
        }
        vanishing.prepare(now.series[a], now.series[b], d, now.modulus);
        int free = finder.search(vanishing, d, way == 1);
        if (free == 0) {
            return NOT;
        }
        finder.handOver(now.equation);
        graph.forget();
        return free;
    }

    public int equation(int what) {
        if (what < 0 || what > 3) {
            return NONE;
        }
        if (now.equation.isMissing()) {
            return MISSING;
        }
        switch (what) {
            case 0:
                return now.equation.degree;
            case 1:
                return now.equation.leadingTerm();
            case 2:
                return now.equation.isSymmetric() ? 1 : 0;
            default:
                return now.equation.nonzeroCount();
        }
    }

    public int term(int i, int k) {
        if (i < 0 || i > GREATEST_DEGREE || k < 0 || k > GREATEST_DEGREE) {
            return NONE;
        }
        if (now.equation.isMissing()) {
            return MISSING;
        }
        return now.equation.has(i, k) ? now.equation.coefficients[WIDTH * i + k] : NONE;
    }

    public int at(int v, int w) {
        if (!isValue(v) || !isValue(w)) {
            return BAD;
        }
        if (now.equation.isMissing()) {
            return MISSING;
        }
        return now.equation.valueOf(v, w, now.modulus);
    }

    public int vanishes(int a, int b) {
        if (!isSeries(a) || !isSeries(b)) {
            return NONE;
        }
        if (now.equation.isMissing() || now.series[a].isMissing() || now.series[b].isMissing()) {
            return MISSING;
        }
        vanishing.prepare(now.series[a], now.series[b], now.equation.degree, now.modulus);
        return vanishing.isZeroFor(now.equation) ? 1 : 0;
    }

    public int neighbour(int v, int k) {
        if (!isValue(v) || k < -1) {
            return BAD;
        }
        if (now.equation.isMissing()) {
            return MISSING;
        }
        if (graph.isDegenerate(now, v)) {
            return STATE;
        }
        int size = graph.sizeOf(now, v);
        if (k == -1) {
            return size;
        }
        return k < size ? graph.neighbourOf(v, k) : NOT;
    }

    public int far(int v, int w) {
        if (!isValue(v) || !isValue(w)) {
            return BAD;
        }
        if (now.equation.isMissing()) {
            return MISSING;
        }
        graph.walkFrom(now, v);
        int distance = graph.distanceTo(w);
        return distance < 0 ? NOT : distance;
    }

    public int reach(int v) {
        if (!isValue(v)) {
            return BAD;
        }
        if (now.equation.isMissing()) {
            return MISSING;
        }
        return graph.walkFrom(now, v);
    }

    public int values(int what) {
        if (what < 0 || what > 3) {
            return NONE;
        }
        if (now.equation.isMissing()) {
            return MISSING;
        }
        switch (what) {
            case 0:
                return graph.ownNeighbours(now);
            case 1:
                return graph.degenerateValues(now);
            case 2:
                return graph.lonelyValues(now);
            default:
                return graph.greatestSize(now);
        }
    }

    // ---- kept polynomials

    public int keep(int k) {
        if (!isPlace(k)) {
            return NONE;
        }
        if (now.equation.isMissing()) {
            return MISSING;
        }
        int owner = now.placeOf(now.modulus);
        if (owner >= 0 && owner != k) {
            return STATE;
        }
        now.kept[k].copyFrom(now.equation);
        now.keptModuli[k] = now.modulus;
        return now.keptCount();
    }

    public int drop(int k) {
        if (!isPlace(k)) {
            return NONE;
        }
        if (now.kept[k].isMissing()) {
            return MISSING;
        }
        now.kept[k].degree = 0;
        return now.keptModuli[k];
    }

    public long joined(int i, int k) {
        int degree = now.commonDegree();
        if (degree == 0 || i < 0 || i > degree || k < 0 || k > degree) {
            return NO;
        }
        return now.joinAt(WIDTH * i + k);
    }

    public long whole() {
        return now.keptCount() == 0 ? NO : now.keptProduct();
    }

    // ---- texts

    public int feed(int letter) {
        if (letter < 1 || letter > GREATEST_LETTER) {
            return BAD;
        }
        if (tape.length >= TAPE) {
            return STATE;
        }
        tape.append(letter);
        return tape.length;
    }

    public int deeds() {
        boolean valid = program.parse(tape);
        int position = tape.position;
        tape.clear();
        if (!valid) {
            return SYNTAX - position;
        }
        int done = 0;
        for (int c = 0; c < program.size; c++) {
            if (carryOut(c) >= 0) {
                done++;
            }
        }
        return done;
    }

    private int carryOut(int c) {
        int first = program.numberOf(c, 0);
        int second = program.numberOf(c, 1);
        int third = program.numberOf(c, 2);
        switch (program.commands[c]) {
            case Program.PRIME:
                return prime(first);
            case Program.J:
                return j(first, second);
            case Program.SUM:
                return sum(first, second, third);
            case Program.TIMES:
                return times(first, second, third);
            case Program.STRETCH:
                return stretch(first, second, third);
            case Program.OVER:
                return over(first, second);
            case Program.POWER:
                return power(first, second, third);
            case Program.FIND:
                return find(first, second, third, program.numberOf(c, 3));
            default:
                return keep(first);
        }
    }

    public int read() {
        boolean valid = text.parse(tape, now.modulus);
        int position = tape.position;
        tape.clear();
        if (!valid) {
            return SYNTAX - position;
        }
        now.equation.copyFrom(text.draft);
        graph.forget();
        return now.equation.degree;
    }

    public int write() {
        if (now.equation.isMissing()) {
            return MISSING;
        }
        text.putDown(now.equation);
        return text.paperLength;
    }

    public int paper(int i) {
        return i < 0 || i >= text.paperLength ? NONE : text.paper[i];
    }

    // ---- lists, image

    public int list(int list, int n) {
        if (!isList(list)) {
            return NONE;
        }
        if (n > LONGEST) {
            return BAD;
        }
        if (n < 0) {
            return NEGATIVE_LENGTH;
        }
        Arrays.fill(lists[list], 0);
        listLengths[list] = n;
        return 1;
    }

    public int put(int list, int i, int v) {
        if (!isList(list)) {
            return NONE;
        }
        if (listLengths[list] < 0) {
            return MISSING;
        }
        if (i < 0 || i >= listLengths[list]) {
            return NO_INDEX;
        }
        lists[list][i] = v;
        return 1;
    }

    public long get(int list, int i) {
        // A missing list has the length -1, so it has no index either.
        if (!isList(list) || i < 0 || i >= listLengths[list]) {
            return NO;
        }
        return lists[list][i];
    }

    public int lay(int list, int series) {
        if (!isList(list) || !isSeries(series)) {
            return NONE;
        }
        if (listLengths[list] < 0 || now.series[series].isMissing()) {
            return MISSING;
        }
        int n = Math.min(listLengths[list], now.series[series].length);
        System.arraycopy(now.series[series].coefficients, 0, lists[list], 0, n);
        return n;
    }

    public int judge(int list, int series) {
        if (!isList(list) || !isSeries(series)) {
            return NONE;
        }
        Series compared = now.series[series];
        if (listLengths[list] < 0 || compared.isMissing()) {
            return MISSING;
        }
        for (int i = 0; i < listLengths[list]; i++) {
            if (i >= compared.length || lists[list][i] != compared.coefficients[i]) {
                return i;
            }
        }
        return NOT;
    }

    public int image() {
        saved.copyFrom(now);
        hasImage = true;
        return now.seriesCount();
    }

    public int back() {
        if (!hasImage) {
            return STATE;
        }
        now.copyFrom(saved);
        graph.forget();
        return now.seriesCount();
    }

    public int count(int what) {
        switch (what) {
            case 0:
                return now.modulus;
            case 1:
                return now.seriesCount();
            case 2:
                return now.keptCount();
            case 3:
                return tape.length;
            case 4:
                return text.paperLength;
            default:
                return BAD;
        }
    }

    // ---- tests of arguments, and the modulus

    private static boolean isSeries(int series) {
        return series >= 0 && series < SERIES;
    }

    private static boolean isList(int list) {
        return list >= 0 && list < LISTS;
    }

    private static boolean isPlace(int k) {
        return k >= 0 && k < PLACES;
    }

    private static boolean isTooFar(int start) {
        return start < -FARTHEST_START || start > FARTHEST_START;
    }

    private boolean isValue(int v) {
        return v >= 0 && v < now.modulus;
    }

    private static boolean isModulus(int p) {
        if (p < LEAST_MODULUS || p > GREATEST_MODULUS) {
            return false;
        }
        for (int d = 2; d * d <= p; d++) {
            if (p % d == 0) {
                return false;
            }
        }
        return true;
    }

    /** By Fermat: a to the power p - 2, for a prime p that does not divide a. */
    private static int inverse(int a, int p) {
        int result = 1;
        int square = a % p;
        for (int n = p - 2; n > 0; n >>= 1) {
            if ((n & 1) == 1) {
                result = result * square % p;
            }
            square = square * square % p;
        }
        return result;
    }

    /**
     * The first n coefficients of a product; to must be another array than a and b. The sums stay
     * far below 2^31, since 80 * 198 * 198 is about 3 million, so one reduction at the end is enough.
     */
    private static void multiply(int[] a, int[] b, int[] to, int n, int p) {
        Arrays.fill(to, 0);
        for (int s = 0; s < n; s++) {
            int factor = a[s];
            // Stretched series and powers 0 are mostly zeros, so this saves most of the work.
            if (factor != 0) {
                for (int t = s; t < n; t++) {
                    to[t] += factor * b[t - s];
                }
            }
        }
        for (int t = 0; t < n; t++) {
            to[t] %= p;
        }
    }

    /** A series; it is missing while its length is 0. */
    private static final class Series {
        final int[] coefficients = new int[LONGEST];
        int start;
        int length;

        void become(int newStart, int newLength, int[] from) {
            start = newStart;
            length = newLength;
            System.arraycopy(from, 0, coefficients, 0, newLength);
        }

        void copyFrom(Series other) {
            become(other.start, other.length, other.coefficients);
        }

        boolean isMissing() {
            return length == 0;
        }

        int last() {
            return start + length - 1;
        }

        /** For exponents up to the last one. */
        int valueOf(int e) {
            return e < start ? 0 : coefficients[e - start];
        }

        int firstNonzero() {
            for (int t = 0; t < length; t++) {
                if (coefficients[t] != 0) {
                    return t;
                }
            }
            return -1;
        }
    }

    /**
     * Makes series out of series. Every result is made in a row of its own and copied at the end,
     * because the series that is set may be one of the operands.
     */
    private static final class SeriesMath {
        private final int[] result = new int[LONGEST];
        private final int[] other = new int[LONGEST];
        private final int[] numerator = new int[LONGEST];
        private final int[] denominator = new int[LONGEST];

        void reduce(int[] numbers, Series to, int start, int n, int p) {
            for (int t = 0; t < n; t++) {
                result[t] = Math.floorMod(numbers[t], p);
            }
            to.become(start, n, result);
        }

        /** Never longer than the operand with the lower start, so no cut is needed. */
        void add(Series a, Series b, Series to, int p) {
            int start = Math.min(a.start, b.start);
            int n = Math.min(a.last(), b.last()) - start + 1;
            for (int t = 0; t < n; t++) {
                result[t] = (a.valueOf(start + t) + b.valueOf(start + t)) % p;
            }
            to.become(start, n, result);
        }

        void makeProduct(Series a, Series b, Series to, int p) {
            int n = Math.min(a.length, b.length);
            multiply(a.coefficients, b.coefficients, result, n, p);
            to.become(a.start + b.start, n, result);
        }

        void widen(Series a, int m, Series to) {
            int n = Math.min(a.length * m, LONGEST);
            Arrays.fill(result, 0);
            for (int t = 0; t * m < n; t++) {
                result[t * m] = a.coefficients[t];
            }
            to.become(a.start * m, n, result);
        }

        void makeReciprocal(Series a, Series to, int p) {
            invert(a.coefficients, result, a.length, p);
            to.become(-a.start, a.length, result);
        }

        void makePower(Series a, int n, Series to, int p) {
            Arrays.fill(result, 0);
            result[0] = 1;
            for (int step = 0; step < n; step++) {
                multiply(result, a.coefficients, other, a.length, p);
                System.arraycopy(other, 0, result, 0, LONGEST);
            }
            to.become(a.start * n, a.length, result);
        }

        void makeInvariant(Series to, int n, int p) {
            fillEisenstein(n, p);
            multiply(result, result, other, n, p);
            multiply(other, result, numerator, n, p);
            fillEulerProduct(n, p);
            // 24 = 3 * 2 * 2 * 2
            multiply(result, result, other, n, p);
            multiply(other, result, denominator, n, p);
            multiply(denominator, denominator, result, n, p);
            multiply(result, result, other, n, p);
            multiply(other, other, denominator, n, p);
            invert(denominator, other, n, p);
            multiply(numerator, other, result, n, p);
            // The divisor has one more factor q.
            to.become(-1, n, result);
        }

        /** The series E, into result. */
        private void fillEisenstein(int n, int p) {
            Arrays.fill(result, 0);
            for (int d = 1; d < n; d++) {
                int cube = 240 * d * d * d % p;
                for (int k = d; k < n; k += d) {
                    result[k] = (result[k] + cube) % p;
                }
            }
            result[0] = 1;
        }

        /** The product of all 1 - q^k, into result. */
        private void fillEulerProduct(int n, int p) {
            Arrays.fill(result, 0);
            result[0] = 1;
            for (int k = 1; k < n; k++) {
                for (int t = n - 1; t >= k; t--) {
                    result[t] = (result[t] + p - result[t - k]) % p;
                }
            }
        }

        private static void invert(int[] a, int[] to, int n, int p) {
            int first = inverse(a[0], p);
            to[0] = first;
            for (int t = 1; t < n; t++) {
                int rest = 0;
                for (int s = 1; s <= t; s++) {
                    rest += a[s] * to[t - s];
                }
                to[t] = (p - rest % p) * first % p;
            }
        }
    }

    /** A polynomial; it is missing while its degree is 0. x^i y^k stands at WIDTH * i + k. */
    private static final class Polynomial {
        final int[] coefficients = new int[TERMS];
        int degree;

        void clear(int newDegree) {
            degree = newDegree;
            Arrays.fill(coefficients, 0);
        }

        void copyFrom(Polynomial other) {
            degree = other.degree;
            System.arraycopy(other.coefficients, 0, coefficients, 0, TERMS);
        }

        boolean isMissing() {
            return degree == 0;
        }

        boolean has(int i, int k) {
            return i <= degree && k <= degree;
        }

        int leadingTerm() {
            for (int t = TERMS - 1; t >= 0; t--) {
                if (coefficients[t] != 0) {
                    return 10 * (t / WIDTH) + t % WIDTH;
                }
            }
            return NOT;
        }

        boolean isSymmetric() {
            for (int i = 0; i <= degree; i++) {
                for (int k = 0; k < i; k++) {
                    if (coefficients[WIDTH * i + k] != coefficients[WIDTH * k + i]) {
                        return false;
                    }
                }
            }
            return true;
        }

        int nonzeroCount() {
            int found = 0;
            for (int t = 0; t < TERMS; t++) {
                if (coefficients[t] != 0) {
                    found++;
                }
            }
            return found;
        }

        int valueOf(int v, int w, int p) {
            int value = 0;
            for (int i = degree; i >= 0; i--) {
                int inner = 0;
                for (int k = degree; k >= 0; k--) {
                    inner = (inner * w + coefficients[WIDTH * i + k]) % p;
                }
                value = (value * v + inner) % p;
            }
            return value;
        }

        /** The coefficient of y^k when v is put in for x. */
        int lineCoefficient(int v, int k, int p) {
            int value = 0;
            for (int i = degree; i >= 0; i--) {
                value = (value * v + coefficients[WIDTH * i + k]) % p;
            }
            return value;
        }
    }

    /** What an image saves: the modulus, the series, the equation and the kept polynomials. */
    private static final class Contents {
        int modulus = FIRST_MODULUS;
        final Series[] series = new Series[SERIES];
        final Polynomial equation = new Polynomial();
        final Polynomial[] kept = new Polynomial[PLACES];
        final int[] keptModuli = new int[PLACES];

        Contents() {
            for (int s = 0; s < SERIES; s++) {
                series[s] = new Series();
            }
            for (int k = 0; k < PLACES; k++) {
                kept[k] = new Polynomial();
            }
        }

        void startAnew(int p) {
            modulus = p;
            equation.degree = 0;
            for (int s = 0; s < SERIES; s++) {
                series[s].length = 0;
            }
        }

        void copyFrom(Contents from) {
            modulus = from.modulus;
            equation.copyFrom(from.equation);
            for (int s = 0; s < SERIES; s++) {
                series[s].copyFrom(from.series[s]);
            }
            for (int k = 0; k < PLACES; k++) {
                kept[k].copyFrom(from.kept[k]);
                keptModuli[k] = from.keptModuli[k];
            }
        }

        int seriesCount() {
            int found = 0;
            for (int s = 0; s < SERIES; s++) {
                if (!series[s].isMissing()) {
                    found++;
                }
            }
            return found;
        }

        int keptCount() {
            int found = 0;
            for (int k = 0; k < PLACES; k++) {
                if (!kept[k].isMissing()) {
                    found++;
                }
            }
            return found;
        }

        /** The place that has a modulus, or -1. */
        int placeOf(int p) {
            for (int k = 0; k < PLACES; k++) {
                if (!kept[k].isMissing() && keptModuli[k] == p) {
                    return k;
                }
            }
            return -1;
        }

        /** The degree of all kept polynomials, or 0 if there is none or they differ. */
        int commonDegree() {
            int degree = 0;
            for (int k = 0; k < PLACES; k++) {
                if (!kept[k].isMissing()) {
                    if (degree != 0 && kept[k].degree != degree) {
                        return 0;
                    }
                    degree = kept[k].degree;
                }
            }
            return degree;
        }

        /** It always fits into a long: at most eight moduli up to 199, and 199^8 is below 2^62. */
        long keptProduct() {
            long product = 1;
            for (int k = 0; k < PLACES; k++) {
                if (!kept[k].isMissing()) {
                    product *= keptModuli[k];
                }
            }
            return product;
        }

        /** Place by place: c is right for all places so far, and lies from 0 to their product - 1. */
        long joinAt(int t) {
            long product = 1;
            long c = 0;
            for (int k = 0; k < PLACES; k++) {
                if (!kept[k].isMissing()) {
                    int p = keptModuli[k];
                    int missing = (kept[k].coefficients[t] + p - (int) (c % p)) % p;
                    int step = missing * inverse((int) (product % p), p) % p;
                    c += product * step;
                    product *= p;
                }
            }
            return 2 * c > product ? c - product : c;
        }
    }

    /**
     * The products of the powers of two series X and Y. All of them have the same length, the lower
     * one of both, so what is known of their sum begins at their lowest start and has that length.
     */
    private static final class Vanishing {
        private final int[][] xPowers = new int[WIDTH][LONGEST];
        private final int[][] yPowers = new int[WIDTH][LONGEST];
        final int[] product = new int[LONGEST];
        private final int[] total = new int[LONGEST];
        private int xStart;
        private int yStart;
        private int lowestStart;
        int length;
        int modulus;

        void prepare(Series x, Series y, int degree, int p) {
            xStart = x.start;
            yStart = y.start;
            lowestStart = degree * (Math.min(xStart, 0) + Math.min(yStart, 0));
            length = Math.min(x.length, y.length);
            modulus = p;
            fillPowers(x.coefficients, xPowers, degree);
            fillPowers(y.coefficients, yPowers, degree);
        }

        private void fillPowers(int[] base, int[][] powers, int degree) {
            Arrays.fill(powers[0], 0);
            powers[0][0] = 1;
            for (int n = 1; n <= degree; n++) {
                multiply(base, powers[n - 1], powers[n], length, modulus);
            }
        }

        /** Fills product with x^i y^k, and returns how far behind the lowest start it begins. */
        int multiplyTerm(int i, int k) {
            int offset = i * xStart + k * yStart - lowestStart;
            multiply(xPowers[i], yPowers[k], product, length - offset, modulus);
            return offset;
        }

        boolean isZeroFor(Polynomial polynomial) {
            Arrays.fill(total, 0);
            for (int i = 0; i <= polynomial.degree; i++) {
                for (int k = 0; k <= polynomial.degree; k++) {
                    addTerm(i, k, polynomial.coefficients[WIDTH * i + k]);
                }
            }
            for (int t = 0; t < length; t++) {
                if (total[t] != 0) {
                    return false;
                }
            }
            return true;
        }

        private void addTerm(int i, int k, int factor) {
            if (factor == 0) {
                return;
            }
            int offset = multiplyTerm(i, k);
            for (int t = offset; t < length; t++) {
                total[t] = (total[t] + factor * product[t - offset]) % modulus;
            }
        }
    }

    /**
     * Finds the polynomial with the lowest leading term. The columns of the matrix are the terms in
     * their order, so the leading terms are those columns that depend on the columns before them.
     */
    private static final class Finder {
        private final int[][] matrix = new int[LONGEST][TERMS];
        private final int[] xExponents = new int[TERMS];
        private final int[] yExponents = new int[TERMS];
        private final int[] solution = new int[TERMS];
        private int degree;
        private boolean symmetric;
        private int columns;
        private int rows;
        private int firstFree;
        private int modulus;

        /** Returns the number of free terms. */
        int search(Vanishing vanishing, int d, boolean onlySymmetric) {
            degree = d;
            symmetric = onlySymmetric;
            rows = vanishing.length;
            modulus = vanishing.modulus;
            listTerms();
            clearMatrix();
            for (int c = 0; c < columns; c++) {
                addProduct(vanishing, xExponents[c], yExponents[c], c);
                if (symmetric && xExponents[c] != yExponents[c]) {
                    addProduct(vanishing, yExponents[c], xExponents[c], c);
                }
            }
            return columns - eliminate();
        }

        private void listTerms() {
            columns = 0;
            for (int i = 0; i <= degree; i++) {
                int greatest = symmetric ? i : degree;
                for (int k = 0; k <= greatest; k++) {
                    xExponents[columns] = i;
                    yExponents[columns] = k;
                    columns++;
                }
            }
        }

        private void clearMatrix() {
            for (int t = 0; t < rows; t++) {
                Arrays.fill(matrix[t], 0);
            }
        }

        private void addProduct(Vanishing vanishing, int i, int k, int c) {
            int offset = vanishing.multiplyTerm(i, k);
            for (int t = offset; t < rows; t++) {
                matrix[t][c] = (matrix[t][c] + vanishing.product[t - offset]) % modulus;
            }
        }

        /** Returns the rank; the columns before the first free one then form a triangle with 1s. */
        private int eliminate() {
            int rank = 0;
            firstFree = columns;
            for (int c = 0; c < columns; c++) {
                int pivot = pivotRow(c, rank);
                if (pivot < 0) {
                    firstFree = Math.min(firstFree, c);
                } else {
                    swapRows(pivot, rank, c);
                    scaleRow(rank, c);
                    clearBelow(rank, c);
                    rank++;
                }
            }
            return rank;
        }

        private int pivotRow(int c, int from) {
            for (int t = from; t < rows; t++) {
                if (matrix[t][c] != 0) {
                    return t;
                }
            }
            return -1;
        }

        private void swapRows(int a, int b, int from) {
            if (a == b) {
                return;
            }
            for (int c = from; c < columns; c++) {
                int moved = matrix[a][c];
                matrix[a][c] = matrix[b][c];
                matrix[b][c] = moved;
            }
        }

        private void scaleRow(int t, int from) {
            int factor = inverse(matrix[t][from], modulus);
            for (int c = from; c < columns; c++) {
                matrix[t][c] = matrix[t][c] * factor % modulus;
            }
        }

        private void clearBelow(int rank, int from) {
            int[] pivot = matrix[rank];
            for (int t = rank + 1; t < rows; t++) {
                int[] row = matrix[t];
                if (row[from] != 0) {
                    int factor = modulus - row[from];
                    for (int c = from; c < columns; c++) {
                        row[c] = (row[c] + factor * pivot[c]) % modulus;
                    }
                }
            }
        }

        /** Sets a polynomial to the one that was found; a search must have found free terms. */
        void handOver(Polynomial to) {
            solve();
            to.clear(degree);
            for (int c = 0; c <= firstFree; c++) {
                to.coefficients[WIDTH * xExponents[c] + yExponents[c]] = solution[c];
                if (symmetric) {
                    to.coefficients[WIDTH * yExponents[c] + xExponents[c]] = solution[c];
                }
            }
        }

        private void solve() {
            solution[firstFree] = 1;
            for (int r = firstFree - 1; r >= 0; r--) {
                int rest = 0;
                for (int c = r + 1; c <= firstFree; c++) {
                    rest += matrix[r][c] * solution[c];
                }
                solution[r] = (modulus - rest % modulus) % modulus;
            }
        }
    }

    /**
     * The values and their neighbors. What was found for a value is kept until forget() is called,
     * which has to be done whenever the equation or the modulus changes.
     */
    private static final class Graph {
        private static final int UNKNOWN = -2, DEGENERATE = -1;
        private final int[] sizes = new int[GREATEST_MODULUS];
        /** GREATEST_DEGREE places for each value. */
        private final int[] neighbours = new int[GREATEST_MODULUS * GREATEST_DEGREE];
        private final int[] line = new int[WIDTH];
        private final int[] distances = new int[GREATEST_MODULUS];
        private final int[] queue = new int[GREATEST_MODULUS];

        Graph() {
            Arrays.fill(sizes, UNKNOWN);
        }

        void forget() {
            Arrays.fill(sizes, UNKNOWN);
        }

        boolean isDegenerate(Contents contents, int v) {
            explore(contents, v);
            return sizes[v] == DEGENERATE;
        }

        /** A degenerate value has no neighbors. */
        int sizeOf(Contents contents, int v) {
            explore(contents, v);
            return Math.max(sizes[v], 0);
        }

        /** For positions below the size. */
        int neighbourOf(int v, int k) {
            return neighbours[GREATEST_DEGREE * v + k];
        }

        private void explore(Contents contents, int v) {
            if (sizes[v] == UNKNOWN) {
                sizes[v] = listNeighbours(contents.equation, v, contents.modulus);
            }
        }

        private int listNeighbours(Polynomial equation, int v, int p) {
            int top = fillLine(equation, v, p);
            if (top < 0) {
                return DEGENERATE;
            }
            int found = 0;
            for (int w = 0; w < p && top > 0; w++) {
                for (; top > 0 && lineAt(w, top, p) == 0; top--) {
                    divideLine(w, top, p);
                    neighbours[GREATEST_DEGREE * v + found] = w;
                    found++;
                }
            }
            return found;
        }

        /** Puts v in for x, and returns the degree in y of what results, or -1 if that is 0. */
        private int fillLine(Polynomial equation, int v, int p) {
            int top = -1;
            for (int k = 0; k <= equation.degree; k++) {
                line[k] = equation.lineCoefficient(v, k, p);
                if (line[k] != 0) {
                    top = k;
                }
            }
            return top;
        }

        private int lineAt(int w, int top, int p) {
            int value = 0;
            for (int k = top; k >= 0; k--) {
                value = (value * w + line[k]) % p;
            }
            return value;
        }

        /** Divides the line by y - w, of which it has to be a multiple. */
        private void divideLine(int w, int top, int p) {
            int quotient = 0;
            for (int k = top; k > 0; k--) {
                int lower = (line[k] + w * quotient) % p;
                line[k] = quotient;
                quotient = lower;
            }
            line[0] = quotient;
        }

        /** Finds the distances from v, and returns how many values can be reached. */
        int walkFrom(Contents contents, int v) {
            Arrays.fill(distances, -1);
            distances[v] = 0;
            queue[0] = v;
            int found = 1;
            for (int next = 0; next < found && next < contents.modulus; next++) {
                int from = queue[next];
                int size = sizeOf(contents, from);
                for (int k = 0; k < size; k++) {
                    int to = neighbourOf(from, k);
                    if (distances[to] < 0) {
                        distances[to] = distances[from] + 1;
                        queue[found] = to;
                        found++;
                    }
                }
            }
            return found;
        }

        /** After a walk: the distance to w, or -1. */
        int distanceTo(int w) {
            return distances[w];
        }

        int ownNeighbours(Contents contents) {
            int found = 0;
            for (int v = 0; v < contents.modulus; v++) {
                if (!isDegenerate(contents, v) && contents.equation.valueOf(v, v, contents.modulus) == 0) {
                    found++;
                }
            }
            return found;
        }

        int degenerateValues(Contents contents) {
            int found = 0;
            for (int v = 0; v < contents.modulus; v++) {
                if (isDegenerate(contents, v)) {
                    found++;
                }
            }
            return found;
        }

        int lonelyValues(Contents contents) {
            int found = 0;
            for (int v = 0; v < contents.modulus; v++) {
                if (!isDegenerate(contents, v) && sizeOf(contents, v) == 0) {
                    found++;
                }
            }
            return found;
        }

        int greatestSize(Contents contents) {
            int greatest = 0;
            for (int v = 0; v < contents.modulus; v++) {
                greatest = Math.max(greatest, sizeOf(contents, v));
            }
            return greatest;
        }
    }

    /** The tape, and how far it has been parsed; a parser that fails leaves its position at the error. */
    private static final class Tape {
        private final int[] letters = new int[TAPE];
        int length;
        int position;
        /** The number that was parsed last. */
        int number;

        void append(int letter) {
            letters[length] = letter;
            length++;
        }

        void clear() {
            length = 0;
        }

        void rewind() {
            position = 0;
        }

        boolean isAtEnd() {
            return position == length;
        }

        boolean accept(int letter) {
            if (position < length && letters[position] == letter) {
                position++;
                return true;
            }
            return false;
        }

        boolean isAtDigit(int least, int greatest) {
            return position < length && letters[position] >= '0' + least && letters[position] <= '0' + greatest;
        }

        /** Takes 1 to 3 digits. */
        boolean acceptNumber() {
            number = 0;
            int digits = 0;
            for (; digits < 3 && isAtDigit(0, 9); digits++) {
                number = 10 * number + letters[position] - '0';
                position++;
            }
            return digits > 0;
        }

        boolean acceptSignedNumber() {
            boolean negative = accept('-');
            boolean valid = acceptNumber();
            if (negative) {
                number = -number;
            }
            return valid;
        }

        /** Takes a digit from 1 to 8. */
        boolean acceptExponent() {
            if (!isAtDigit(1, GREATEST_DEGREE)) {
                return false;
            }
            number = letters[position] - '0';
            position++;
            return true;
        }

        /** Where the run of letters ends that begins at the position. */
        int wordEnd() {
            int end = position;
            while (end < length && letters[end] >= 'a' && letters[end] <= 'z') {
                end++;
            }
            return end;
        }

        boolean hasWord(String word, int end) {
            if (end - position != word.length()) {
                return false;
            }
            for (int t = 0; t < word.length(); t++) {
                if (letters[position + t] != word.charAt(t)) {
                    return false;
                }
            }
            return true;
        }
    }

    /** The commands of a program and their numbers. */
    private static final class Program {
        static final int PRIME = 0, J = 1, SUM = 2, TIMES = 3, STRETCH = 4, OVER = 5, POWER = 6, FIND = 7, KEEP = 8;
        private static final int WORDS = 9, MOST_NUMBERS = 4;
        /** No program has as many commands as bytes. */
        final int[] commands = new int[TAPE];
        private final int[] numbers = new int[TAPE * MOST_NUMBERS];
        int size;

        int numberOf(int c, int i) {
            return numbers[MOST_NUMBERS * c + i];
        }

        boolean parse(Tape tape) {
            tape.rewind();
            size = 0;
            boolean more = true;
            while (more && size < TAPE) {
                if (!parseCommand(tape)) {
                    return false;
                }
                size++;
                more = tape.accept(';');
            }
            return tape.isAtEnd();
        }

        private boolean parseCommand(Tape tape) {
            int end = tape.wordEnd();
            int command = commandAt(tape, end);
            if (command < 0) {
                // The position stays at the first letter, or where a letter is missing.
                return false;
            }
            tape.position = end;
            commands[size] = command;
            int wanted = numbersAfter(command);
            for (int i = 0; i < wanted; i++) {
                if (!tape.accept(' ') || !tape.acceptSignedNumber()) {
                    return false;
                }
                numbers[MOST_NUMBERS * size + i] = tape.number;
            }
            return true;
        }

        private static int commandAt(Tape tape, int end) {
            for (int command = 0; command < WORDS; command++) {
                if (tape.hasWord(wordOf(command), end)) {
                    return command;
                }
            }
            return -1;
        }

        private static String wordOf(int command) {
            switch (command) {
                case PRIME:
                    return "prime";
                case J:
                    return "j";
                case SUM:
                    return "sum";
                case TIMES:
                    return "times";
                case STRETCH:
                    return "stretch";
                case OVER:
                    return "over";
                case POWER:
                    return "power";
                case FIND:
                    return "find";
                default:
                    return "keep";
            }
        }

        private static int numbersAfter(int command) {
            switch (command) {
                case PRIME:
                case KEEP:
                    return 1;
                case J:
                case OVER:
                    return 2;
                case FIND:
                    return 4;
                default:
                    return 3;
            }
        }
    }

    /** Polynomials as text: parsed from the tape into a draft, and written onto the paper. */
    private static final class PolynomialText {
        /** Three digits, x and y with a digit each, and a + for each term. */
        private static final int PAPER = 8 * TERMS;
        final Polynomial draft = new Polynomial();
        final int[] paper = new int[PAPER];
        int paperLength;

        boolean parse(Tape tape, int p) {
            tape.rewind();
            draft.clear(1);
            boolean more = true;
            for (int terms = 0; more && terms < TAPE; terms++) {
                if (!parseTerm(tape, p)) {
                    return false;
                }
                more = tape.accept('+');
            }
            return tape.isAtEnd();
        }

        private boolean parseTerm(Tape tape, int p) {
            if (!tape.acceptNumber()) {
                return false;
            }
            int factor = tape.number;
            int i = 0;
            if (tape.accept('x')) {
                if (!tape.acceptExponent()) {
                    return false;
                }
                i = tape.number;
            }
            int k = 0;
            if (tape.accept('y')) {
                if (!tape.acceptExponent()) {
                    return false;
                }
                k = tape.number;
            }
            int t = WIDTH * i + k;
            draft.coefficients[t] = (draft.coefficients[t] + factor) % p;
            draft.degree = Math.max(draft.degree, Math.max(i, k));
            return true;
        }

        void putDown(Polynomial polynomial) {
            paperLength = 0;
            for (int i = polynomial.degree; i >= 0; i--) {
                for (int k = polynomial.degree; k >= 0; k--) {
                    int factor = polynomial.coefficients[WIDTH * i + k];
                    if (factor != 0) {
                        putTerm(factor, i, k);
                    }
                }
            }
            if (paperLength == 0) {
                putByte('0');
            }
        }

        private void putTerm(int factor, int i, int k) {
            if (paperLength > 0) {
                putByte('+');
            }
            putNumber(factor);
            if (i > 0) {
                putByte('x');
                putNumber(i);
            }
            if (k > 0) {
                putByte('y');
                putNumber(k);
            }
        }

        /** A number from 0 to 999. */
        private void putNumber(int n) {
            if (n >= 100) {
                putByte('0' + n / 100);
            }
            if (n >= 10) {
                putByte('0' + n / 10 % 10);
            }
            putByte('0' + n % 10);
        }

        private void putByte(int letter) {
            if (paperLength < PAPER) {
                paper[paperLength] = letter;
                paperLength++;
            }
        }
    }
}
