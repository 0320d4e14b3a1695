import java.math.BigInteger;
import java.util.ArrayList;
import java.util.List;
import java.util.TreeMap;
import java.util.regex.Matcher;
import java.util.regex.Pattern;

/**
 * The document a second time, written for plainness alone and by other ways than the program:
 * exact integers for j, maps from exponents for series, columns with their combinations for
 * finding, shifted polynomials for neighbors, regular expressions for the texts.
 */
final class Model {
    static final int NONE = -1, BAD = -2, STATE = -3, NOT = -5, MISSING = -11;
    static final long NO = Long.MIN_VALUE;
    private static final BigInteger[] J = exactInvariant();

    /** Coefficients by exponent, all from the start to the last one. */
    private static final class Row {
        final int start;
        final int[] c;

        Row(int start, int[] c) {
            this.start = start;
            this.c = c.length > 80 ? java.util.Arrays.copyOf(c, 80) : c;
        }

        int last() {
            return start + c.length - 1;
        }

        int get(int e) {
            return e < start ? 0 : c[e - start];
        }
    }

    /** c[i][k], with both indices from 0 to the degree. */
    private static final class Poly {
        final int[][] c;

        Poly(int d) {
            c = new int[d + 1][d + 1];
        }

        int degree() {
            return c.length - 1;
        }
    }

    private int p = 101;
    private Row[] series = new Row[6];
    private Poly equation;
    private Poly[] kept = new Poly[8];
    private int[] moduli = new int[8];
    private Object[] image;
    private StringBuilder tape = new StringBuilder();
    private String paper = "";
    private final int[][] lists = new int[4][];

    private static BigInteger[] exactInvariant() {
        int n = 80;
        BigInteger[] e = new BigInteger[n];
        for (int k = 0; k < n; k++) {
            long s = 0;
            for (long d = 1; d <= k; d++) {
                s += k % d == 0 ? d * d * d : 0;
            }
            e[k] = BigInteger.valueOf(k == 0 ? 1 : 240 * s);
        }
        BigInteger[] c = exactProduct(exactProduct(e, e), e);
        for (int k = 1; k < n; k++) {
            for (int times = 0; times < 24; times++) {
                for (int t = k; t < n; t++) {
                    c[t] = c[t].add(c[t - k]);
                }
            }
        }
        return c;
    }

    private static BigInteger[] exactProduct(BigInteger[] a, BigInteger[] b) {
        BigInteger[] c = new BigInteger[a.length];
        for (int t = 0; t < a.length; t++) {
            c[t] = BigInteger.ZERO;
            for (int s = 0; s <= t; s++) {
                c[t] = c[t].add(a[s].multiply(b[t - s]));
            }
        }
        return c;
    }

    private static boolean in(int value, int least, int greatest) {
        return value >= least && value <= greatest;
    }

    private static int power(int a, int n, int p) {
        return BigInteger.valueOf(a).modPow(BigInteger.valueOf(n), BigInteger.valueOf(p)).intValue();
    }

    private static int inverse(int a, int p) {
        return BigInteger.valueOf(a).modInverse(BigInteger.valueOf(p)).intValue();
    }

    int prime(int q) {
        if (!in(q, 5, 199) || !BigInteger.valueOf(q).isProbablePrime(50)) return BAD;
        int old = p;
        p = q;
        series = new Row[6];
        equation = null;
        return old;
    }

    int j(int s, int n) {
        if (!in(s, 0, 5)) return NONE;
        if (!in(n, 1, 80)) return BAD;
        int[] c = new int[n];
        for (int t = 0; t < n; t++) c[t] = J[t].mod(BigInteger.valueOf(p)).intValue();
        series[s] = new Row(-1, c);
        return n;
    }

    int tell(int s, int list, int start) {
        if (!in(s, 0, 5) || !in(list, 0, 3)) return NONE;
        if (!in(start, -99, 99)) return BAD;
        if (lists[list] == null) return MISSING;
        if (lists[list].length == 0) return STATE;
        int[] c = new int[lists[list].length];
        for (int t = 0; t < c.length; t++) c[t] = (int) ((((long) lists[list][t]) % p + p) % p);
        series[s] = new Row(start, c);
        return c.length;
    }

    int sum(int a, int b, int to) {
        if (!in(a, 0, 5) || !in(b, 0, 5) || !in(to, 0, 5)) return NONE;
        if (series[a] == null || series[b] == null) return MISSING;
        List<Integer> c = new ArrayList<>();
        int start = Math.min(series[a].start, series[b].start);
        for (int e = start; e <= series[a].last() && e <= series[b].last(); e++) {
            c.add((series[a].get(e) + series[b].get(e)) % p);
        }
        series[to] = new Row(start, c.stream().mapToInt(x -> x).toArray());
        return series[to].c.length;
    }

    private Row product(Row a, Row b) {
        int[] c = new int[Math.min(a.c.length, b.c.length)];
        for (int s = 0; s < c.length; s++) {
            for (int t = 0; s + t < c.length; t++) c[s + t] = (c[s + t] + a.c[s] * b.c[t]) % p;
        }
        return new Row(a.start + b.start, c);
    }

    int times(int a, int b, int to) {
        if (!in(a, 0, 5) || !in(b, 0, 5) || !in(to, 0, 5)) return NONE;
        if (series[a] == null || series[b] == null) return MISSING;
        Row result = product(series[a], series[b]);
        if (!in(result.start, -99, 99)) return STATE;
        series[to] = result;
        return result.c.length;
    }

    int stretch(int a, int m, int to) {
        if (!in(a, 0, 5) || !in(to, 0, 5)) return NONE;
        if (!in(m, 1, 9)) return BAD;
        if (series[a] == null) return MISSING;
        if (!in(series[a].start * m, -99, 99)) return STATE;
        int[] c = new int[series[a].c.length * m];
        for (int t = 0; t < c.length; t++) c[t] = t % m == 0 ? series[a].c[t / m] : 0;
        series[to] = new Row(series[a].start * m, c);
        return series[to].c.length;
    }

    int over(int a, int to) {
        if (!in(a, 0, 5) || !in(to, 0, 5)) return NONE;
        if (series[a] == null) return MISSING;
        if (series[a].c[0] == 0) return STATE;
        int n = series[a].c.length;
        int[] rest = new int[n];
        rest[0] = 1;
        int[] c = new int[n];
        for (int t = 0; t < n; t++) {
            c[t] = rest[t] * inverse(series[a].c[0], p) % p;
            for (int s = t; s < n; s++) rest[s] = Math.floorMod(rest[s] - c[t] * series[a].c[s - t], p);
        }
        series[to] = new Row(-series[a].start, c);
        return n;
    }

    private Row powerOf(Row a, int n) {
        int[] one = new int[a.c.length];
        one[0] = 1;
        Row result = new Row(0, one);
        for (int t = 0; t < n; t++) result = product(result, a);
        return result;
    }

    int power(int a, int n, int to, boolean asCall) {
        if (!in(a, 0, 5) || !in(to, 0, 5)) return NONE;
        if (!in(n, 0, 9)) return BAD;
        if (series[a] == null) return MISSING;
        Row result = powerOf(series[a], n);
        if (!in(result.start, -99, 99)) return STATE;
        series[to] = result;
        return result.c.length;
    }

    int of(int s, int what) {
        if (!in(s, 0, 5) || !in(what, 0, 2)) return NONE;
        if (series[s] == null) return MISSING;
        if (what == 0) return series[s].start + 1000;
        if (what == 1) return series[s].c.length;
        for (int e = series[s].start; e <= series[s].last(); e++) {
            if (series[s].get(e) != 0) return e + 1000;
        }
        return NOT;
    }

    int coefficient(int s, int e) {
        if (!in(s, 0, 5)) return NONE;
        if (series[s] == null) return MISSING;
        if (e > series[s].last()) return NOT;
        return series[s].get(e);
    }

    /** All products of the powers, by i and k. */
    private Row[][] products(Row x, Row y, int d) {
        Row[][] all = new Row[d + 1][d + 1];
        for (int i = 0; i <= d; i++) {
            for (int k = 0; k <= d; k++) all[i][k] = product(powerOf(x, i), powerOf(y, k));
        }
        return all;
    }

    private static int lowestStart(Row[][] all) {
        int low = Integer.MAX_VALUE;
        for (Row[] line : all) for (Row row : line) low = Math.min(low, row.start);
        return low;
    }

    private static int lowestLast(Row[][] all) {
        int low = Integer.MAX_VALUE;
        for (Row[] line : all) for (Row row : line) low = Math.min(low, row.last());
        return low;
    }

    int find(int a, int b, int d, int way) {
        if (!in(a, 0, 5) || !in(b, 0, 5)) return NONE;
        if (!in(d, 1, 8) || !in(way, 0, 1)) return BAD;
        if (series[a] == null || series[b] == null) return MISSING;
        Row[][] all = products(series[a], series[b], d);
        int low = lowestStart(all);
        int n = lowestLast(all) - low + 1;
        List<int[]> terms = new ArrayList<>();
        for (int i = 0; i <= d; i++) {
            for (int k = 0; k <= d; k++) if (way == 0 || k <= i) terms.add(new int[] {i, k});
        }
        List<int[]> basis = new ArrayList<>();
        int free = 0;
        Poly found = null;
        for (int t = 0; t < terms.size(); t++) {
            // The column, and behind it which terms it is made of.
            int[] column = new int[n + terms.size()];
            int i = terms.get(t)[0];
            int k = terms.get(t)[1];
            for (int e = 0; e < n; e++) {
                column[e] = all[i][k].get(low + e);
                if (way == 1 && i != k) column[e] = (column[e] + all[k][i].get(low + e)) % p;
            }
            column[n + t] = 1;
            for (int[] other : basis) {
                int pivot = pivot(other, n);
                int factor = column[pivot] * inverse(other[pivot], p) % p;
                for (int e = 0; e < column.length; e++) column[e] = Math.floorMod(column[e] - factor * other[e], p);
            }
            if (pivot(column, n) < n) {
                basis.add(column);
                continue;
            }
            free++;
            if (found == null) {
                found = new Poly(d);
                for (int s = 0; s < terms.size(); s++) {
                    found.c[terms.get(s)[0]][terms.get(s)[1]] = column[n + s];
                    if (way == 1) found.c[terms.get(s)[1]][terms.get(s)[0]] = column[n + s];
                }
            }
        }
        if (found == null) return NOT;
        equation = found;
        return free;
    }

    private static int pivot(int[] column, int n) {
        int t = 0;
        while (t < n && column[t] == 0) t++;
        return t;
    }

    int equation(int what) {
        if (!in(what, 0, 3)) return NONE;
        if (equation == null) return MISSING;
        int d = equation.degree();
        int leading = NOT;
        int symmetric = 1;
        int nonzero = 0;
        for (int i = 0; i <= d; i++) {
            for (int k = 0; k <= d; k++) {
                if (equation.c[i][k] != 0) {
                    leading = 10 * i + k;
                    nonzero++;
                }
                if (equation.c[i][k] != equation.c[k][i]) symmetric = 0;
            }
        }
        return new int[] {d, leading, symmetric, nonzero}[what];
    }

    int term(int i, int k) {
        if (!in(i, 0, 8) || !in(k, 0, 8)) return NONE;
        if (equation == null) return MISSING;
        if (i > equation.degree() || k > equation.degree()) return NONE;
        return equation.c[i][k];
    }

    private int value(int v, int w) {
        int value = 0;
        for (int i = 0; i <= equation.degree(); i++) {
            for (int k = 0; k <= equation.degree(); k++) {
                value = (value + equation.c[i][k] * power(v, i, p) % p * power(w, k, p)) % p;
            }
        }
        return value;
    }

    int at(int v, int w) {
        if (!in(v, 0, p - 1) || !in(w, 0, p - 1)) return BAD;
        if (equation == null) return MISSING;
        return value(v, w);
    }

    int vanishes(int a, int b) {
        if (!in(a, 0, 5) || !in(b, 0, 5)) return NONE;
        if (equation == null || series[a] == null || series[b] == null) return MISSING;
        int d = equation.degree();
        Row[][] all = products(series[a], series[b], d);
        TreeMap<Integer, Integer> total = new TreeMap<>();
        for (int i = 0; i <= d; i++) {
            for (int k = 0; k <= d; k++) {
                for (int e = all[i][k].start; e <= lowestLast(all); e++) {
                    total.put(e, (total.getOrDefault(e, 0) + equation.c[i][k] * all[i][k].get(e)) % p);
                }
            }
        }
        for (int value : total.values()) if (value != 0) return 0;
        return 1;
    }

    /** The neighbors of v, or null if v is degenerate. */
    private List<Integer> neighbours(int v) {
        int d = equation.degree();
        int[] line = new int[d + 1];
        boolean zero = true;
        for (int k = 0; k <= d; k++) {
            for (int i = 0; i <= d; i++) line[k] = (line[k] + equation.c[i][k] * power(v, i, p)) % p;
            zero &= line[k] == 0;
        }
        if (zero) return null;
        List<Integer> found = new ArrayList<>();
        for (int w = 0; w < p; w++) {
            // y - w divides as often as y divides what results when y + w is put in for y.
            for (int m = 0; m <= d && shifted(line, w, m) == 0; m++) found.add(w);
        }
        return found;
    }

    private int shifted(int[] line, int w, int m) {
        BigInteger value = BigInteger.ZERO;
        for (int k = m; k < line.length; k++) {
            BigInteger choose = BigInteger.ONE;
            for (int t = 1; t <= m; t++) {
                choose = choose.multiply(BigInteger.valueOf(k - t + 1)).divide(BigInteger.valueOf(t));
            }
            value = value.add(choose.multiply(BigInteger.valueOf(line[k])).multiply(BigInteger.valueOf(w).pow(k - m)));
        }
        return value.mod(BigInteger.valueOf(p)).intValue();
    }

    int neighbour(int v, int k) {
        if (!in(v, 0, p - 1) || k < -1) return BAD;
        if (equation == null) return MISSING;
        List<Integer> all = neighbours(v);
        if (all == null) return STATE;
        if (k == -1) return all.size();
        return k < all.size() ? all.get(k) : NOT;
    }

    /** Steps are taken from all values at once, until nothing changes. */
    private int[] distances(int v) {
        int[] far = new int[p];
        java.util.Arrays.fill(far, NOT);
        far[v] = 0;
        boolean changed = true;
        for (int step = 0; changed; step++) {
            changed = false;
            for (int from = 0; from < p; from++) {
                List<Integer> all = far[from] == step ? neighbours(from) : null;
                if (all == null) continue;
                for (int to : all) {
                    if (far[to] == NOT) {
                        far[to] = step + 1;
                        changed = true;
                    }
                }
            }
        }
        return far;
    }

    int far(int v, int w) {
        if (!in(v, 0, p - 1) || !in(w, 0, p - 1)) return BAD;
        if (equation == null) return MISSING;
        return distances(v)[w];
    }

    int reach(int v) {
        if (!in(v, 0, p - 1)) return BAD;
        if (equation == null) return MISSING;
        int found = 0;
        for (int far : distances(v)) found += far == NOT ? 0 : 1;
        return found;
    }

    int values(int what) {
        if (!in(what, 0, 3)) return NONE;
        if (equation == null) return MISSING;
        int[] found = new int[4];
        for (int v = 0; v < p; v++) {
            List<Integer> all = neighbours(v);
            if (all == null) {
                found[1]++;
            } else {
                found[0] += all.contains(v) ? 1 : 0;
                found[2] += all.isEmpty() ? 1 : 0;
                found[3] = Math.max(found[3], all.size());
            }
        }
        return found[what];
    }

    private int keptCount() {
        int found = 0;
        for (Poly poly : kept) found += poly == null ? 0 : 1;
        return found;
    }

    int keep(int k) {
        if (!in(k, 0, 7)) return NONE;
        if (equation == null) return MISSING;
        for (int other = 0; other < 8; other++) {
            if (other != k && kept[other] != null && moduli[other] == p) return STATE;
        }
        kept[k] = equation;
        moduli[k] = p;
        return keptCount();
    }

    int drop(int k) {
        if (!in(k, 0, 7)) return NONE;
        if (kept[k] == null) return MISSING;
        kept[k] = null;
        return moduli[k];
    }

    private BigInteger product() {
        BigInteger m = BigInteger.ONE;
        for (int k = 0; k < 8; k++) if (kept[k] != null) m = m.multiply(BigInteger.valueOf(moduli[k]));
        return m;
    }

    long joined(int i, int k) {
        if (keptCount() == 0) return NO;
        int degree = -1;
        for (Poly poly : kept) {
            if (poly == null) continue;
            if (degree >= 0 && poly.degree() != degree) return NO;
            degree = poly.degree();
        }
        if (!in(i, 0, degree) || !in(k, 0, degree) || product().bitLength() > 63) return NO;
        BigInteger m = product();
        BigInteger c = BigInteger.ZERO;
        for (int place = 0; place < 8; place++) {
            if (kept[place] == null) continue;
            BigInteger q = BigInteger.valueOf(moduli[place]);
            BigInteger others = m.divide(q);
            c = c.add(others.multiply(others.modInverse(q)).multiply(BigInteger.valueOf(kept[place].c[i][k])));
        }
        c = c.mod(m);
        return (c.shiftLeft(1).compareTo(m) > 0 ? c.subtract(m) : c).longValueExact();
    }

    long whole() {
        return keptCount() == 0 || product().bitLength() > 63 ? NO : product().longValueExact();
    }

    int feed(int letter) {
        if (!in(letter, 1, 127)) return BAD;
        if (tape.length() == 100) return STATE;
        tape.append((char) letter);
        return tape.length();
    }

    private static final String NUMBER = "-?[0-9]{1,3}";
    private static final String[] WORDS = {"prime", "j", "sum", "times", "stretch", "over", "power", "find", "keep"};
    private static final int[] WANTED = {1, 2, 3, 3, 3, 2, 3, 4, 1};
    private static final Pattern PROGRAM = programPattern();
    private static final String TERM = "[0-9]{1,3}(x[1-8])?(y[1-8])?";
    private static final Pattern POLYNOMIAL = Pattern.compile(TERM + "(\\+" + TERM + ")*");

    private static Pattern programPattern() {
        StringBuilder command = new StringBuilder("(");
        for (int c = 0; c < WORDS.length; c++) {
            command.append(c == 0 ? "" : "|").append(WORDS[c]).append("( ").append(NUMBER).append("){").append(WANTED[c]).append("}");
        }
        command.append(")");
        return Pattern.compile(command + "(;" + command + ")*");
    }

    /** The offset of the first byte that no valid text has there, or -1 if the text is valid. */
    private static int error(Pattern pattern, String text) {
        for (int n = 1; n <= text.length(); n++) {
            Matcher matcher = pattern.matcher(text.substring(0, n));
            if (!matcher.matches() && !matcher.hitEnd()) return n - 1;
        }
        return pattern.matcher(text).matches() ? -1 : text.length();
    }

    private static int programError(String text) {
        int error = error(PROGRAM, text);
        if (error < 0) return error;
        // A word around the error, or ahead of it, that is no command moves the error to its beginning.
        int begin = error;
        while (begin > 0 && Character.isLetter(text.charAt(begin - 1))) begin--;
        int end = begin;
        while (end < text.length() && text.charAt(end) >= 'a' && text.charAt(end) <= 'z') end++;
        boolean wordIsDue = begin == 0 || text.charAt(begin - 1) == ';';
        String word = text.substring(begin, end);
        boolean command = java.util.Arrays.asList(WORDS).contains(word);
        return wordIsDue && !word.isEmpty() && !command ? begin : error;
    }

    int deeds() {
        String text = tape.toString();
        tape = new StringBuilder();
        int error = programError(text);
        if (error >= 0) return -100 - error;
        int done = 0;
        for (String command : text.split(";")) {
            String[] parts = command.split(" ");
            int[] n = new int[4];
            for (int t = 1; t < parts.length; t++) n[t - 1] = Integer.parseInt(parts[t]);
            done += carryOut(parts[0], n) < 0 ? 0 : 1;
        }
        return done;
    }

    private int carryOut(String word, int[] n) {
        switch (word) {
            case "prime": return prime(n[0]);
            case "j": return j(n[0], n[1]);
            case "sum": return sum(n[0], n[1], n[2]);
            case "times": return times(n[0], n[1], n[2]);
            case "stretch": return stretch(n[0], n[1], n[2]);
            case "over": return over(n[0], n[1]);
            case "power": return power(n[0], n[1], n[2], true);
            case "find": return find(n[0], n[1], n[2], n[3]);
            case "keep": return keep(n[0]);
            default: throw new IllegalStateException(word);
        }
    }

    int read() {
        String text = tape.toString();
        tape = new StringBuilder();
        int error = error(POLYNOMIAL, text);
        if (error >= 0) return -100 - error;
        int degree = 1;
        Poly all = new Poly(8);
        Matcher term = Pattern.compile("([0-9]+)(x([1-8]))?(y([1-8]))?").matcher(text);
        while (term.find()) {
            int i = term.group(3) == null ? 0 : Integer.parseInt(term.group(3));
            int k = term.group(5) == null ? 0 : Integer.parseInt(term.group(5));
            all.c[i][k] = (all.c[i][k] + Integer.parseInt(term.group(1))) % p;
            degree = Math.max(degree, Math.max(i, k));
        }
        equation = new Poly(degree);
        for (int i = 0; i <= degree; i++) System.arraycopy(all.c[i], 0, equation.c[i], 0, degree + 1);
        return degree;
    }

    int write() {
        if (equation == null) return MISSING;
        List<String> terms = new ArrayList<>();
        for (int i = 0; i <= equation.degree(); i++) {
            for (int k = 0; k <= equation.degree(); k++) {
                int c = equation.c[i][k];
                if (c != 0) terms.add(0, c + (i == 0 ? "" : "x" + i) + (k == 0 ? "" : "y" + k));
            }
        }
        paper = terms.isEmpty() ? "0" : String.join("+", terms);
        return paper.length();
    }

    int paper(int i) {
        return in(i, 0, paper.length() - 1) ? paper.charAt(i) : NONE;
    }

    int list(int list, int n) {
        if (!in(list, 0, 3)) return NONE;
        if (n > 80) return BAD;
        if (n < 0) return -14;
        lists[list] = new int[n];
        return 1;
    }

    int put(int list, int i, int v) {
        if (!in(list, 0, 3)) return NONE;
        if (lists[list] == null) return MISSING;
        if (!in(i, 0, lists[list].length - 1)) return -13;
        lists[list][i] = v;
        return 1;
    }

    long get(int list, int i) {
        if (!in(list, 0, 3) || lists[list] == null || !in(i, 0, lists[list].length - 1)) return NO;
        return lists[list][i];
    }

    int lay(int list, int s) {
        if (!in(list, 0, 3) || !in(s, 0, 5)) return NONE;
        if (lists[list] == null || series[s] == null) return MISSING;
        int n = 0;
        for (; n < lists[list].length && n < series[s].c.length; n++) lists[list][n] = series[s].c[n];
        return n;
    }

    int judge(int list, int s) {
        if (!in(list, 0, 3) || !in(s, 0, 5)) return NONE;
        if (lists[list] == null || series[s] == null) return MISSING;
        for (int i = 0; i < lists[list].length; i++) {
            if (i >= series[s].c.length || lists[list][i] != series[s].c[i]) return i;
        }
        return NOT;
    }

    private int seriesCount() {
        int found = 0;
        for (Row row : series) found += row == null ? 0 : 1;
        return found;
    }

    int image() {
        image = new Object[] {p, series.clone(), equation, kept.clone(), moduli.clone()};
        return seriesCount();
    }

    int back() {
        if (image == null) return STATE;
        p = (Integer) image[0];
        series = ((Row[]) image[1]).clone();
        equation = (Poly) image[2];
        kept = ((Poly[]) image[3]).clone();
        moduli = ((int[]) image[4]).clone();
        return seriesCount();
    }

    int count(int what) {
        return in(what, 0, 4) ? new int[] {p, seriesCount(), keptCount(), tape.length(), paper.length()}[what] : BAD;
    }
}
