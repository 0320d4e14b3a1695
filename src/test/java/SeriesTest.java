/** Promises 1 to 11: the new object, the modulus and the series. */
public final class SeriesTest {
    private static final int NONE = -1, BAD = -2, STATE = -3, NOT = -5, MISSING = -11;
    private static final int[] NO_SERIES = {-1, 6, 7, 80, Integer.MIN_VALUE, Integer.MAX_VALUE};
    private static final Check check = new Check("SeriesTest");

    public static void main(String[] args) {
        newObject();
        prime();
        primeMakesMissing();
        invariant();
        tell();
        sum();
        times();
        stretch();
        over();
        power();
        of();
        coefficient();
        check.end();
    }

    private static void newObject() {
        check.promise(1, "a new object");
        CountedEquations x = new CountedEquations();
        check.due("count(0)", x.count(0), 101);
        for (int what = 1; what <= 4; what++) {
            check.due("count(" + what + ")", x.count(what), 0);
        }
        for (int s = 0; s < 6; s++) {
            check.due("of(" + s + ", 0)", x.of(s, 0), MISSING);
        }
        for (int k = 0; k < 8; k++) {
            check.due("drop(" + k + ")", x.drop(k), MISSING);
        }
        for (int l = 0; l < 4; l++) {
            check.due("put(" + l + ", 0, 1)", x.put(l, 0, 1), MISSING);
        }
        check.due("equation(0)", x.equation(0), MISSING);
        check.due("whole()", x.whole(), Long.MIN_VALUE);
        check.due("paper(0)", x.paper(0), NONE);
        check.due("back()", x.back(), STATE);
        CountedEquations other = new CountedEquations();
        other.prime(7);
        other.j(0, 5);
        check.due("count(0) of another object", x.count(0), 101);
        check.due("count(1) of another object", x.count(1), 0);
    }

    private static void prime() {
        check.promise(2, "prime");
        CountedEquations x = new CountedEquations();
        int previous = 101;
        for (int p = -10; p <= 220; p++) {
            boolean valid = p >= 5 && p <= 199;
            for (int d = 2; d < p; d++) {
                valid &= p % d != 0;
            }
            check.due("prime(" + p + ")", x.prime(p), valid ? previous : BAD);
            previous = valid ? p : previous;
            check.due("count(0) after prime(" + p + ")", x.count(0), previous);
        }
        for (int p : new int[] {Integer.MIN_VALUE, Integer.MAX_VALUE, 65537, -101}) {
            check.due("prime(" + p + ")", x.prime(p), BAD);
        }
        check.due("count(0)", x.count(0), 199);
    }

    private static void primeMakesMissing() {
        check.promise(2, "prime makes missing");
        CountedEquations x = new CountedEquations();
        x.j(0, 4);
        x.j(5, 80);
        check.reads(x, "1x1+2", 1);
        check.due("keep(3)", x.keep(3), 1);
        check.due("list(1, 2)", x.list(1, 2), 1);
        check.due("prime(102)", x.prime(102), BAD);
        check.due("count(1)", x.count(1), 2);
        check.due("equation(0)", x.equation(0), 1);
        check.due("prime(101)", x.prime(101), 101);
        check.due("count(1)", x.count(1), 0);
        check.due("of(5, 0)", x.of(5, 0), MISSING);
        check.due("equation(0)", x.equation(0), MISSING);
        check.due("neighbour(0, 0)", x.neighbour(0, 0), MISSING);
        check.due("count(2)", x.count(2), 1);
        check.due("joined(1, 0)", x.joined(1, 0), 1);
        check.due("get(1, 1)", x.get(1, 1), 0);
    }

    private static void invariant() {
        check.promise(3, "j");
        // The coefficients of j, as every table has them.
        long[] exact = {1, 744, 196884, 21493760, 864299970L, 20245856256L, 333202640600L, 4252023300096L, 44656994071935L,
            401490886656000L, 3176440229784420L, 22567393309593600L};
        for (int p : new int[] {5, 7, 11, 13, 101, 103, 197, 199}) {
            CountedEquations x = new CountedEquations();
            x.prime(p);
            int[] due = new int[exact.length];
            for (int t = 0; t < due.length; t++) {
                due[t] = (int) (exact[t] % p);
            }
            check.due("j(2, 12)", x.j(2, 12), 12);
            check.holdsSeries(x, 2, -1, due);
            check.due("j(3, 80)", x.j(3, 80), 80);
            for (int t = 0; t < due.length; t++) {
                check.due("j of length 80 at " + t, x.coefficient(3, t - 1), due[t]);
            }
            check.due("coefficient(3, 79)", x.coefficient(3, 79), NOT);
            check.due("j(2, 1)", x.j(2, 1), 1);
            check.holdsSeries(x, 2, -1, 1);
        }
        CountedEquations x = new CountedEquations();
        x.j(0, 7);
        for (int n : new int[] {0, -1, 81, Integer.MIN_VALUE, Integer.MAX_VALUE}) {
            check.due("j(0, " + n + ")", x.j(0, n), BAD);
        }
        for (int s : NO_SERIES) {
            check.due("j(" + s + ", 4)", x.j(s, 4), NONE);
            check.due("j(" + s + ", 0)", x.j(s, 0), NONE);
        }
        check.due("of(0, 1)", x.of(0, 1), 7);
        check.due("count(1)", x.count(1), 1);
    }

    private static void tell() {
        check.promise(4, "tell");
        CountedEquations x = new CountedEquations();
        check.lists(x, 0, 0, 100, 101, 102, -1, -101, -102, Integer.MIN_VALUE, Integer.MAX_VALUE);
        check.due("tell(4, 0, -99)", x.tell(4, 0, -99), 9);
        check.holdsSeries(x, 4, -99, 0, 100, 0, 1, 100, 0, 100, Math.floorMod(Integer.MIN_VALUE, 101), Integer.MAX_VALUE % 101);
        check.due("tell(4, 0, 99)", x.tell(4, 0, 99), 9);
        check.due("of(4, 0)", x.of(4, 0), 1099);
        check.due("of(4, 2)", x.of(4, 2), 1100);
        check.due("list(1, 80)", x.list(1, 80), 1);
        check.due("tell(0, 1, 0)", x.tell(0, 1, 0), 80);
        check.due("coefficient(0, 79)", x.coefficient(0, 79), 0);
        check.due("list(2, 0)", x.list(2, 0), 1);
        check.due("tell(0, 2, 5)", x.tell(0, 2, 5), STATE);
        check.due("tell(0, 3, 5)", x.tell(0, 3, 5), MISSING);
        check.due("tell(0, 3, 100)", x.tell(0, 3, 100), BAD);
        check.due("tell(0, 2, -100)", x.tell(0, 2, -100), BAD);
        check.due("tell(0, 0, MIN)", x.tell(0, 0, Integer.MIN_VALUE), BAD);
        check.due("tell(0, 4, 100)", x.tell(0, 4, 100), NONE);
        check.due("tell(0, -1, 0)", x.tell(0, -1, 0), NONE);
        for (int s : NO_SERIES) {
            check.due("tell(" + s + ", 3, 100)", x.tell(s, 3, 100), NONE);
        }
        check.due("of(0, 1)", x.of(0, 1), 80);
        check.due("of(0, 0)", x.of(0, 0), 1000);
        check.due("put(0, 0, 7)", x.put(0, 0, 7), 1);
        check.due("a series does not follow its list", x.coefficient(4, 99), 0);
    }

    private static void noneAndMissing(CountedEquations x, int to) {
        for (int s : NO_SERIES) {
            check.due("sum(s, 0, 0)", x.sum(s, 0, to), NONE);
            check.due("sum(0, s, 0)", x.sum(0, s, to), NONE);
            check.due("sum(5, 5, s)", x.sum(5, 5, s), NONE);
            check.due("times(s, 0, 0)", x.times(s, 0, to), NONE);
            check.due("times(0, s, 0)", x.times(0, s, to), NONE);
            check.due("times(5, 5, s)", x.times(5, 5, s), NONE);
            check.due("stretch(s, 0, 0)", x.stretch(s, 0, to), NONE);
            check.due("stretch(5, 0, s)", x.stretch(5, 0, s), NONE);
            check.due("over(s, 0)", x.over(s, to), NONE);
            check.due("over(5, s)", x.over(5, s), NONE);
            check.due("power(s, 10, 0)", x.power(s, 10, to), NONE);
            check.due("power(5, 10, s)", x.power(5, 10, s), NONE);
        }
        check.due("sum(0, 5, to)", x.sum(0, 5, to), MISSING);
        check.due("sum(5, 0, to)", x.sum(5, 0, to), MISSING);
        check.due("times(0, 5, to)", x.times(0, 5, to), MISSING);
        check.due("times(5, 0, to)", x.times(5, 0, to), MISSING);
        check.due("stretch(5, 1, to)", x.stretch(5, 1, to), MISSING);
        check.due("stretch(5, 10, to)", x.stretch(5, 10, to), BAD);
        check.due("over(5, to)", x.over(5, to), MISSING);
        check.due("power(5, 1, to)", x.power(5, 1, to), MISSING);
        check.due("power(5, 10, to)", x.power(5, 10, to), BAD);
    }

    private static void sum() {
        check.promise(5, "sum");
        CountedEquations x = new CountedEquations();
        check.tells(x, 0, -2, 1, 2, 3, 100);
        check.tells(x, 1, 0, 100, 5, 6, 7, 8);
        check.due("sum(0, 1, 2)", x.sum(0, 1, 2), 4);
        check.holdsSeries(x, 2, -2, 1, 2, 2, 4);
        check.due("sum(1, 0, 3)", x.sum(1, 0, 3), 4);
        check.holdsSeries(x, 3, -2, 1, 2, 2, 4);
        check.due("sum(0, 0, 0)", x.sum(0, 0, 0), 4);
        check.holdsSeries(x, 0, -2, 2, 4, 6, 99);
        check.due("sum(0, 1, 1)", x.sum(0, 1, 1), 4);
        check.holdsSeries(x, 1, -2, 2, 4, 5, 3);
        // Far apart: the lower one ends before the other one starts; and the other way it is longer than its end.
        check.tells(x, 0, -99, 3);
        check.tells(x, 1, 99, 4, 5);
        check.due("sum(0, 1, 2)", x.sum(0, 1, 2), 1);
        check.holdsSeries(x, 2, -99, 3);
        check.tells(x, 0, 0, 9, 8, 7, 6, 5, 4);
        check.tells(x, 1, 2, 1);
        check.due("sum(1, 0, 1)", x.sum(1, 0, 1), 3);
        check.holdsSeries(x, 1, 0, 9, 8, 8);
        noneAndMissing(x, 1);
        check.holdsSeries(x, 1, 0, 9, 8, 8);
        x.j(2, 80);
        x.j(3, 80);
        check.due("sum(2, 3, 4)", x.sum(2, 3, 4), 80);
        for (int e = -1; e < 79; e++) {
            check.due("twice j at " + e, x.coefficient(4, e), 2 * x.coefficient(3, e) % 101);
        }
    }

    private static void times() {
        check.promise(6, "times");
        CountedEquations x = new CountedEquations();
        check.tells(x, 0, -3, 1, 2, 3, 4);
        check.tells(x, 1, 5, 100, 50, 7);
        check.due("times(0, 1, 2)", x.times(0, 1, 2), 3);
        check.holdsSeries(x, 2, 2, 100, (50 + 200) % 101, (7 + 100 + 300) % 101);
        check.due("times(1, 0, 1)", x.times(1, 0, 1), 3);
        check.holdsSeries(x, 1, 2, 100, 250 % 101, 407 % 101);
        check.due("times(0, 0, 0)", x.times(0, 0, 0), 4);
        check.holdsSeries(x, 0, -6, 1, 4, 10, 20);
        check.tells(x, 2, 50, 1);
        check.tells(x, 3, 49, 2, 3);
        check.due("times(2, 3, 4)", x.times(2, 3, 4), 1);
        check.holdsSeries(x, 4, 99, 2);
        check.due("times(2, 2, 4)", x.times(2, 2, 4), STATE);
        check.holdsSeries(x, 4, 99, 2);
        check.tells(x, 2, -50, 1);
        check.tells(x, 3, -49, 6);
        check.due("times(2, 3, 4)", x.times(2, 3, 4), 1);
        check.holdsSeries(x, 4, -99, 6);
        check.due("times(2, 2, 2)", x.times(2, 2, 2), STATE);
        check.holdsSeries(x, 2, -50, 1);
        noneAndMissing(x, 2);
        check.holdsSeries(x, 2, -50, 1);
    }

    private static void stretch() {
        check.promise(7, "stretch");
        CountedEquations x = new CountedEquations();
        check.tells(x, 0, -2, 7, 8, 9);
        check.due("stretch(0, 1, 1)", x.stretch(0, 1, 1), 3);
        check.holdsSeries(x, 1, -2, 7, 8, 9);
        check.due("stretch(0, 3, 1)", x.stretch(0, 3, 1), 9);
        check.holdsSeries(x, 1, -6, 7, 0, 0, 8, 0, 0, 9, 0, 0);
        check.due("stretch(0, 2, 0)", x.stretch(0, 2, 0), 6);
        check.holdsSeries(x, 0, -4, 7, 0, 8, 0, 9, 0);
        check.due("list(0, 10)", x.list(0, 10), 1);
        check.due("put(0, 8, 5)", x.put(0, 8, 5), 1);
        check.due("put(0, 9, 6)", x.put(0, 9, 6), 1);
        check.due("tell(0, 0, 11)", x.tell(0, 0, 11), 10);
        check.due("stretch(0, 9, 1)", x.stretch(0, 9, 1), 80);
        check.due("of(1, 0)", x.of(1, 0), 1099);
        check.due("coefficient(1, 171)", x.coefficient(1, 171), 5);
        check.due("coefficient(1, 178)", x.coefficient(1, 178), 0);
        check.due("coefficient(1, 179)", x.coefficient(1, 179), NOT);
        check.due("stretch(0, 8, 1)", x.stretch(0, 8, 1), 80);
        check.due("coefficient(1, 160)", x.coefficient(1, 160), 6);
        check.due("coefficient(1, 167)", x.coefficient(1, 167), 0);
        check.due("tell(0, 0, 12)", x.tell(0, 0, 12), 10);
        check.due("stretch(0, 9, 1)", x.stretch(0, 9, 1), STATE);
        check.due("tell(0, 0, -12)", x.tell(0, 0, -12), 10);
        check.due("stretch(0, 9, 0)", x.stretch(0, 9, 0), STATE);
        check.due("of(0, 0)", x.of(0, 0), 988);
        for (int m : new int[] {0, -1, 10, Integer.MIN_VALUE, Integer.MAX_VALUE}) {
            check.due("stretch(0, " + m + ", 1)", x.stretch(0, m, 1), BAD);
        }
        check.due("of(1, 0)", x.of(1, 0), 1088);
        noneAndMissing(x, 1);
    }

    private static void over() {
        check.promise(8, "over");
        CountedEquations x = new CountedEquations();
        check.tells(x, 0, -1, 1, 100, 0, 0, 0);
        check.due("over(0, 1)", x.over(0, 1), 5);
        check.holdsSeries(x, 1, 1, 1, 1, 1, 1, 1);
        check.due("over(1, 1)", x.over(1, 1), 5);
        check.holdsSeries(x, 1, -1, 1, 100, 0, 0, 0);
        check.tells(x, 2, 99, 2);
        check.due("over(2, 3)", x.over(2, 3), 1);
        check.holdsSeries(x, 3, -99, 51);
        check.tells(x, 2, 0, 0, 5);
        check.due("over(2, 3)", x.over(2, 3), STATE);
        check.holdsSeries(x, 3, -99, 51);
        for (int p : new int[] {5, 101, 199}) {
            x.prime(p);
            x.j(0, 80);
            check.tells(x, 1, 3, p - 1, 2, p - 2, 3, 4, 1);
            for (int s = 0; s < 2; s++) {
                int n = x.of(s, 1);
                check.due("over(" + s + ", 2)", x.over(s, 2), n);
                check.due("times(" + s + ", 2, 2)", x.times(s, 2, 2), n);
                for (int e = -1; e < n; e++) {
                    check.due("product with the reciprocal at " + e, x.coefficient(2, e), e == 0 ? 1 : 0);
                }
            }
        }
        noneAndMissing(x, 2);
    }

    private static void power() {
        check.promise(9, "power");
        CountedEquations x = new CountedEquations();
        check.tells(x, 0, -2, 1, 1, 0, 0, 0, 0, 0, 0, 0, 0, 0);
        check.due("power(0, 9, 1)", x.power(0, 9, 1), 11);
        check.holdsSeries(x, 1, -18, 1, 9, 36, 84, 25, 25, 84, 36, 9, 1, 0);
        check.due("power(0, 1, 1)", x.power(0, 1, 1), 11);
        check.holdsSeries(x, 1, -2, 1, 1, 0, 0, 0, 0, 0, 0, 0, 0, 0);
        check.due("power(0, 0, 1)", x.power(0, 0, 1), 11);
        check.holdsSeries(x, 1, 0, 1, 0, 0, 0, 0, 0, 0, 0, 0, 0, 0);
        check.due("power(0, 2, 0)", x.power(0, 2, 0), 11);
        check.holdsSeries(x, 0, -4, 1, 2, 1, 0, 0, 0, 0, 0, 0, 0, 0);
        check.tells(x, 2, 50, 0, 3);
        check.due("power(2, 2, 3)", x.power(2, 2, 3), STATE);
        check.due("of(3, 0)", x.of(3, 0), MISSING);
        check.due("power(2, 0, 2)", x.power(2, 0, 2), 2);
        check.holdsSeries(x, 2, 0, 1, 0);
        check.tells(x, 2, 11, 4);
        check.due("power(2, 9, 3)", x.power(2, 9, 3), 1);
        check.due("of(3, 0)", x.of(3, 0), 1099);
        check.tells(x, 2, -33, 4);
        check.due("power(2, 3, 3)", x.power(2, 3, 3), 1);
        check.holdsSeries(x, 3, -99, 64);
        check.due("power(2, 4, 3)", x.power(2, 4, 3), STATE);
        check.holdsSeries(x, 3, -99, 64);
        for (int n : new int[] {-1, 10, Integer.MIN_VALUE, Integer.MAX_VALUE}) {
            check.due("power(2, " + n + ", 3)", x.power(2, n, 3), BAD);
        }
        noneAndMissing(x, 3);
    }

    private static void of() {
        check.promise(10, "of");
        CountedEquations x = new CountedEquations();
        check.tells(x, 0, -7, 0, 101, 3, 0);
        check.due("of(0, 0)", x.of(0, 0), 993);
        check.due("of(0, 1)", x.of(0, 1), 4);
        check.due("of(0, 2)", x.of(0, 2), 995);
        check.tells(x, 1, 98, 0, 101, -202);
        check.due("of(1, 0)", x.of(1, 0), 1098);
        check.due("of(1, 2)", x.of(1, 2), NOT);
        check.tells(x, 1, 98, 0, 0, 1);
        check.due("of(1, 2)", x.of(1, 2), 1100);
        check.tells(x, 1, -99, 1, 0, 1);
        check.due("of(1, 2)", x.of(1, 2), 901);
        check.tells(x, 1, -99, 0);
        check.due("of(1, 2) does not see what was there before", x.of(1, 2), NOT);
        check.tells(x, 1, -99, 0, 0);
        check.due("of(1, 2) does not see what was there before", x.of(1, 2), NOT);
        for (int what : new int[] {-1, 3, Integer.MIN_VALUE, Integer.MAX_VALUE}) {
            check.due("of(0, " + what + ")", x.of(0, what), NONE);
            check.due("of(5, " + what + ")", x.of(5, what), NONE);
        }
        for (int s : NO_SERIES) {
            check.due("of(" + s + ", 0)", x.of(s, 0), NONE);
        }
        check.due("of(5, 2)", x.of(5, 2), MISSING);
    }

    private static void coefficient() {
        check.promise(11, "coefficient");
        CountedEquations x = new CountedEquations();
        check.tells(x, 0, -7, 5, 6, 7);
        check.due("coefficient(0, MIN)", x.coefficient(0, Integer.MIN_VALUE), 0);
        check.due("coefficient(0, -8)", x.coefficient(0, -8), 0);
        check.due("coefficient(0, -7)", x.coefficient(0, -7), 5);
        check.due("coefficient(0, -5)", x.coefficient(0, -5), 7);
        check.due("coefficient(0, -4)", x.coefficient(0, -4), NOT);
        check.due("coefficient(0, MAX)", x.coefficient(0, Integer.MAX_VALUE), NOT);
        check.due("coefficient(1, 0)", x.coefficient(1, 0), MISSING);
        for (int s : NO_SERIES) {
            check.due("coefficient(" + s + ", 0)", x.coefficient(s, 0), NONE);
        }
    }
}
