import java.math.BigInteger;

/**
 * A test for each sentence about the modulus and the series that names a boundary: What it is,
 * Modulus, Series, Operations, The invariant, promises 1 to 11.
 */
public final class SeriesBoundsTest {
    private static final int NONE = -1, BAD = -2, STATE = -3, NOT = -5, MISSING = -11;
    private static final int LEAST = Check.LEAST_INT, GREATEST = Check.GREATEST_INT;
    private static final int[] SOME_MODULI = {5, 101, 199};
    private static final int[] MODULI = {5, 7, 11, 13, 17, 19, 23, 29, 31, 37, 41, 43, 47, 53, 59, 61, 67, 71, 73, 79, 83, 89, 97, 101,
        103, 107, 109, 113, 127, 131, 137, 139, 149, 151, 157, 163, 167, 173, 179, 181, 191, 193, 197, 199};
    private static final Check check = new Check("SeriesBoundsTest");

    public static void main(String[] args) {
        use();
        modulus();
        computing();
        series();
        longSeries();
        sums();
        products();
        stretched();
        reciprocals();
        powers();
        invariant();
        newObject();
        prime();
        told();
        arguments();
        properties();
        coefficients();
        check.end();
    }

    private static void use() {
        check.test("What it is", "an object is used for at most 512 calls: the last one is answered, dear calls ahead of it", x -> {
            x.j(0, 80);
            x.stretch(0, 2, 1);
            while (x.left() > 1) {
                // All multiples of the equation of level 2 have these leading terms: 6 * 6.
                check.due("find(0, 1, 8, 0)", x.find(0, 1, 8, 0), 36);
            }
            check.due("equation(0)", x.equation(0), 8);
        });
        check.test("What it is", "an object is used for at most 512 calls: the last one is answered, texts ahead of it", x -> {
            while (x.left() > 20) {
                check.reads(x, "1x1+1", 1);
                check.due("write()", x.write(), 5);
            }
            while (x.left() > 1) {
                x.count(0);
            }
            check.due("count(4)", x.count(4), 5);
        });
    }

    private static void modulus() {
        check.test("Modulus", "P is 101 at first", x -> {
            check.due("count(0)", x.count(0), 101);
            check.tells(x, 0, 0, 100, 101, 102);
            check.holdsSeries(x, 0, 0, 100, 0, 1);
        });
        check.test("Modulus", "P is a prime from 5 on: 5 is taken, what is below is not", x -> {
            for (int p : new int[] {4, 3, 2, 1, 0, -1, -2, -3, -5, -7, -101, LEAST, LEAST + 1}) {
                check.due("prime(" + p + ")", x.prime(p), BAD);
            }
            check.due("prime(5)", x.prime(5), 101);
            check.due("count(0)", x.count(0), 5);
        });
        check.test("Modulus", "P is a prime to 199: 199 is taken, what is above is not", x -> {
            for (int p : new int[] {200, 201, 203, 209, 211, 223, 227, 251, 257, 65537, GREATEST - 1, GREATEST}) {
                check.due("prime(" + p + ")", x.prime(p), BAD);
            }
            check.due("prime(199)", x.prime(199), 101);
            check.due("count(0)", x.count(0), 199);
        });
        check.test("Modulus", "P is a prime: all from 5 to 199 are taken, and no other number between them", x -> {
            int next = 0;
            int previous = 101;
            for (int p = 5; p <= 199; p++) {
                if (p == MODULI[next]) {
                    check.due("prime(" + p + ")", x.prime(p), previous);
                    previous = p;
                    next++;
                } else {
                    check.due("prime(" + p + ")", x.prime(p), BAD);
                }
            }
            check.due("the number of moduli", next, 44);
        });
    }

    private static void computing() {
        check.test("Modulus", "all coefficients are from 0 to P - 1: a sum wraps around from P on", x -> {
            for (int p : SOME_MODULI) {
                x.prime(p);
                check.tells(x, 0, 0, p - 1, p - 2, p - 1);
                check.tells(x, 1, 0, 1, 1, p - 1);
                x.sum(0, 1, 2);
                check.holdsSeries(x, 2, 0, 0, p - 1, p - 2);
            }
        });
        check.test("Modulus", "all coefficients are from 0 to P - 1: products, powers and reciprocals of P - 1 wrap around", x -> {
            for (int p : SOME_MODULI) {
                x.prime(p);
                check.tells(x, 0, 0, p - 1, p - 1);
                x.times(0, 0, 1);
                check.holdsSeries(x, 1, 0, 1, 2);
                x.power(0, 3, 1);
                check.holdsSeries(x, 1, 0, p - 1, p - 3);
                x.over(0, 1);
                check.holdsSeries(x, 1, 0, p - 1, 1);
            }
        });
        check.test("Modulus", "computed modulo P: the longest sums of the greatest products are exact", x -> {
            for (int p : new int[] {5, 199}) {
                x.prime(p);
                check.tells(x, 0, 0, Check.filled(p - 1, 80));
                x.times(0, 0, 1);
                x.power(0, 9, 2);
                for (int e = 0; e < 80; e += 79) {
                    check.due("the product at " + e, x.coefficient(1, e), (e + 1) % p);
                    check.due("the power 9 at " + e, x.coefficient(2, e), Math.floorMod(-choose(e + 8, 8), (long) p));
                }
                x.over(0, 1);
                check.due("of(1, 1)", x.of(1, 1), 80);
                for (int e = 0; e < 80; e += 1 + e / 20) {
                    check.due("the reciprocal at " + e, x.coefficient(1, e), e == 0 ? p - 1 : e == 1 ? 1 : 0);
                }
            }
        });
    }

    private static long choose(int n, int k) {
        BigInteger result = BigInteger.ONE;
        for (int t = 1; t <= k; t++) {
            result = result.multiply(BigInteger.valueOf(n - k + t)).divide(BigInteger.valueOf(t));
        }
        return result.longValueExact();
    }

    private static void series() {
        check.test("Series", "there are six series, numbered 0 to 5, which are missing at first", x -> {
            for (int s = 0; s <= 5; s++) {
                check.due("of(" + s + ", 1)", x.of(s, 1), MISSING);
                check.due("coefficient(" + s + ", 0)", x.coefficient(s, 0), MISSING);
            }
            check.refuses(x, "of(s, 1)", 0, 5, NONE, (y, s) -> y.of(s, 1));
            check.due("count(1)", x.count(1), 0);
        });
        check.test("Series", "there are six series: each has a start, a length and coefficients of its own", x -> {
            for (int s = 0; s <= 5; s++) {
                check.tells(x, s, 10 * s, Check.counted(s + 1));
            }
            for (int s = 0; s <= 5; s++) {
                check.holdsSeries(x, s, 10 * s, Check.counted(s + 1));
            }
            check.due("count(1)", x.count(1), 6);
        });
        check.test("Series", "a start is from -99 to 99", x -> {
            check.tells(x, 0, -99, 7);
            check.holdsSeries(x, 0, -99, 7);
            check.tells(x, 0, 99, 8);
            check.holdsSeries(x, 0, 99, 8);
            check.due("tell(0, 3, -100)", x.tell(0, 3, -100), BAD);
            check.due("tell(0, 3, 100)", x.tell(0, 3, 100), BAD);
            check.holdsSeries(x, 0, 99, 8);
        });
        check.test("Series", "a length is from 1 to 80", x -> {
            check.tells(x, 0, -3, 9);
            check.holdsSeries(x, 0, -3, 9);
            check.tells(x, 1, -3, Check.counted(80));
            check.holdsSeries(x, 1, -3, Check.counted(80));
            check.due("list(0, 0)", x.list(0, 0), 1);
            check.due("tell(2, 0, 0)", x.tell(2, 0, 0), STATE);
            check.due("list(0, 81)", x.list(0, 81), BAD);
            check.due("j(2, 0)", x.j(2, 0), BAD);
            check.due("j(2, 81)", x.j(2, 81), BAD);
            check.due("of(2, 1)", x.of(2, 1), MISSING);
        });
        check.test("Series", "coefficients for lower exponents are 0", x -> {
            check.tells(x, 0, -99, 7, 8);
            check.tells(x, 1, 99, 7, 8);
            for (int e : new int[] {-100, -101, -1000, LEAST, LEAST + 1, LEAST + 98, LEAST + 99, LEAST + 100}) {
                check.due("coefficient(0, " + e + ")", x.coefficient(0, e), 0);
                check.due("coefficient(1, " + e + ")", x.coefficient(1, e), 0);
            }
            check.due("coefficient(1, 98)", x.coefficient(1, 98), 0);
            check.due("coefficient(1, 99)", x.coefficient(1, 99), 7);
        });
        check.test("Series", "coefficients for exponents higher than start + n - 1 are unknown", x -> {
            check.tells(x, 0, -99, 7, 8);
            check.tells(x, 1, 99, 7, 8);
            check.due("coefficient(0, -98)", x.coefficient(0, -98), 8);
            check.due("coefficient(1, 100)", x.coefficient(1, 100), 8);
            for (int e : new int[] {101, 1000, GREATEST, GREATEST - 98, GREATEST - 99, GREATEST - 100}) {
                check.due("coefficient(0, " + e + ")", x.coefficient(0, e), NOT);
                check.due("coefficient(1, " + e + ")", x.coefficient(1, e), NOT);
            }
            check.due("coefficient(0, -97)", x.coefficient(0, -97), NOT);
        });
    }

    private static void longSeries() {
        check.test("Series", "a length of just 80 is kept whole", x -> {
            for (int m : new int[] {1, 2, 4, 5, 8}) {
                int n = 80 / m;
                check.tells(x, 0, 0, Check.counted(n));
                check.due("stretch by " + m, x.stretch(0, m, 1), 80);
                check.due("the last old coefficient", x.coefficient(1, (n - 1) * m), n);
                check.due("the last exponent", x.coefficient(1, 79), m == 1 ? 80 : 0);
                check.due("behind it", x.coefficient(1, 80), NOT);
            }
        });
        check.test("Series", "of a length greater than 80 only the first 80 coefficients are kept", x -> {
            int[][] cases = {{27, 3}, {41, 2}, {9, 9}, {80, 9}, {17, 5}};
            for (int[] lengths : cases) {
                int n = lengths[0];
                int m = lengths[1];
                check.tells(x, 0, -1, Check.counted(n));
                check.due("stretch " + n + " by " + m, x.stretch(0, m, 1), 80);
                check.due("of(1, 1)", x.of(1, 1), 80);
                int last = 79 / m;
                check.due("the last old coefficient that is kept", x.coefficient(1, last * m - m), last + 1);
                check.due("the last exponent", x.coefficient(1, 79 - m), 79 % m == 0 ? last + 1 : 0);
                check.due("behind it", x.coefficient(1, 80 - m), NOT);
            }
        });
        check.test("Series", "a length of 79 stays 79, and one of 78 that is stretched from 39 stays 78", x -> {
            check.tells(x, 0, 0, Check.counted(79));
            check.due("stretch by 1", x.stretch(0, 1, 1), 79);
            check.due("behind it", x.coefficient(1, 79), NOT);
            check.tells(x, 0, 0, Check.counted(39));
            check.due("stretch by 2", x.stretch(0, 2, 1), 78);
            check.due("behind it", x.coefficient(1, 78), NOT);
        });
    }

    private static void sums() {
        check.test("Operations", "the sum starts at the lower of both starts", x -> {
            check.tells(x, 0, 5, 1, 1, 1);
            check.tells(x, 1, 4, 2, 2, 2);
            check.tells(x, 2, 6, 3, 3, 3);
            check.tells(x, 3, 5, 4, 4, 4);
            x.sum(0, 1, 4);
            check.holdsSeries(x, 4, 4, 2, 3, 3);
            x.sum(0, 2, 4);
            check.holdsSeries(x, 4, 5, 1, 4, 4);
            x.sum(0, 3, 4);
            check.holdsSeries(x, 4, 5, 5, 5, 5);
        });
        check.test("Operations", "the sum ends at the lower of both last exponents, whichever series has it", x -> {
            check.tells(x, 0, 0, 1, 1, 1);
            check.tells(x, 1, 0, 2, 2, 2, 2);
            check.tells(x, 2, 1, 3);
            check.due("sum(0, 1, 4)", x.sum(0, 1, 4), 3);
            check.holdsSeries(x, 4, 0, 3, 3, 3);
            check.due("sum(1, 0, 4)", x.sum(1, 0, 4), 3);
            check.due("sum(1, 2, 4)", x.sum(1, 2, 4), 2);
            check.holdsSeries(x, 4, 0, 2, 5);
            check.due("sum(2, 1, 4)", x.sum(2, 1, 4), 2);
            check.holdsSeries(x, 4, 0, 2, 5);
        });
        check.test("Operations", "the sum of two series that touch in one exponent, and of two that don't", x -> {
            check.tells(x, 0, -1, 7, 8, 9);
            check.tells(x, 1, 1, 1, 2, 3);
            check.tells(x, 2, 2, 1, 2, 3);
            check.due("sum(0, 1, 4)", x.sum(0, 1, 4), 3);
            check.holdsSeries(x, 4, -1, 7, 8, 10);
            check.due("sum(2, 0, 4)", x.sum(2, 0, 4), 3);
            check.holdsSeries(x, 4, -1, 7, 8, 9);
        });
        check.test("Operations", "the sum of the lowest and the highest start, and of two series of length 80", x -> {
            check.tells(x, 0, -99, 5);
            check.tells(x, 1, 99, Check.filled(1, 80));
            check.due("sum(0, 1, 2)", x.sum(0, 1, 2), 1);
            check.holdsSeries(x, 2, -99, 5);
            check.due("sum(1, 1, 2)", x.sum(1, 1, 2), 80);
            check.holdsSeries(x, 2, 99, Check.filled(2, 80));
            check.tells(x, 0, 98, Check.filled(3, 80));
            check.due("sum(0, 1, 2)", x.sum(0, 1, 2), 80);
            check.due("coefficient(2, 98)", x.coefficient(2, 98), 3);
            check.due("coefficient(2, 177)", x.coefficient(2, 177), 4);
            check.due("coefficient(2, 178)", x.coefficient(2, 178), NOT);
        });
    }

    private static void products() {
        check.test("Operations", "the product's length is the lower of both lengths", x -> {
            check.tells(x, 0, 0, 5);
            check.tells(x, 1, 0, Check.filled(1, 80));
            check.tells(x, 2, 0, 1, 2);
            check.due("times(0, 1, 3)", x.times(0, 1, 3), 1);
            check.holdsSeries(x, 3, 0, 5);
            check.due("times(1, 0, 3)", x.times(1, 0, 3), 1);
            check.due("times(1, 2, 3)", x.times(1, 2, 3), 2);
            check.holdsSeries(x, 3, 0, 1, 3);
            check.due("times(1, 1, 3)", x.times(1, 1, 3), 80);
            check.holdsSeries(x, 3, 0, Check.counted(80));
        });
        check.test("Promise 6", "STATE if the start would be out of range: 99 and -99 are not, 100 and -100 are", x -> {
            int[][] starts = {{99, 0, 1}, {99, 1, 0}, {50, 49, 1}, {50, 50, 0}, {99, 99, 0}, {-99, 0, 1}, {-99, -1, 0}, {-50, -49, 1},
                {-50, -50, 0}, {-99, -99, 0}, {99, -99, 1}, {-98, 99, 1}};
            for (int[] each : starts) {
                check.tells(x, 0, each[0], 2);
                check.tells(x, 1, each[1], 3);
                check.due("times of the starts " + each[0] + " and " + each[1], x.times(0, 1, 2), each[2] == 1 ? 1 : STATE);
                if (each[2] == 1) {
                    check.holdsSeries(x, 2, each[0] + each[1], 6);
                }
            }
        });
    }

    private static void stretched() {
        check.test("Promise 7", "m: the number m, 1 to 9; BAD if m is out of range", x -> {
            check.tells(x, 0, 0, 1, 2);
            for (int m = 1; m <= 9; m++) {
                check.due("stretch(0, " + m + ", 1)", x.stretch(0, m, 1), 2 * m);
                check.due("where the second one stands", x.coefficient(1, m), 2);
            }
            check.refuses(x, "stretch(0, m, 1)", 1, 9, BAD, (y, m) -> y.stretch(0, m, 1));
        });
        check.test("Promise 7", "STATE if the start would be out of range: 99 and -99 are not, beyond them it is", x -> {
            int[][] cases = {{11, 9, 1}, {12, 9, 0}, {-11, 9, 1}, {-12, 9, 0}, {33, 3, 1}, {34, 3, 0}, {-33, 3, 1}, {-34, 3, 0}, {49, 2, 1},
                {50, 2, 0}, {-49, 2, 1}, {-50, 2, 0}, {99, 1, 1}, {-99, 1, 1}, {99, 2, 0}, {-99, 9, 0}, {99, 9, 0}, {0, 9, 1}};
            for (int[] each : cases) {
                check.tells(x, 0, each[0], 5);
                check.due("stretch the start " + each[0] + " by " + each[1], x.stretch(0, each[1], 1), each[2] == 1 ? each[1] : STATE);
                if (each[2] == 1) {
                    check.due("of(1, 0)", x.of(1, 0), 1000 + each[0] * each[1]);
                }
            }
        });
        check.test("Operations", "all new coefficients of a stretched series are 0, whatever was there before", x -> {
            check.tells(x, 1, 0, Check.filled(9, 80));
            check.tells(x, 0, 0, 1, 2, 3);
            x.times(1, 1, 2);
            check.due("stretch(0, 4, 1)", x.stretch(0, 4, 1), 12);
            check.holdsSeries(x, 1, 0, 1, 0, 0, 0, 2, 0, 0, 0, 3, 0, 0, 0);
            check.due("stretch(0, 1, 1)", x.stretch(0, 1, 1), 3);
            check.holdsSeries(x, 1, 0, 1, 2, 3);
        });
    }

    private static void reciprocals() {
        check.test("Promise 8", "STATE if the first coefficient of a is 0, also a number of a list that is 0 modulo P", x -> {
            check.tells(x, 0, 4, 0, 1, 2);
            check.due("over(0, 1)", x.over(0, 1), STATE);
            check.tells(x, 0, 4, 101, 1);
            check.due("over(0, 1)", x.over(0, 1), STATE);
            check.tells(x, 0, 4, 0);
            check.due("over(0, 1)", x.over(0, 1), STATE);
            check.tells(x, 0, 4, 1, 0);
            check.due("over(0, 1)", x.over(0, 1), 2);
            check.holdsSeries(x, 1, -4, 1, 0);
        });
        check.test("Operations", "each number from 1 to P - 1 has a reciprocal", x -> {
            for (int p : new int[] {5, 101, 199}) {
                CountedEquations y = null;
                for (int c = 1; c < p; c++) {
                    if (c % 50 == 1) {
                        y = new CountedEquations();
                        y.prime(p);
                    }
                    check.tells(y, 0, 0, c);
                    check.due("over of " + c, y.over(0, 1), 1);
                    check.due("its product with " + c, y.coefficient(1, 0) * c % p, 1);
                }
            }
        });
        check.test("Operations", "the reciprocal's product with the series is 1, for the lengths 1, 2 and 80", x -> {
            for (int n : new int[] {1, 2, 80}) {
                check.tells(x, 0, 3, Check.counted(n));
                check.due("over(0, 1)", x.over(0, 1), n);
                check.due("times(0, 1, 2)", x.times(0, 1, 2), n);
                check.lists(x, 0, Check.headed(1, n));
                check.due("judge(0, 2)", x.judge(0, 2), NOT);
                check.due("of(2, 0)", x.of(2, 0), 1000);
            }
        });
        check.test("Operations", "the reciprocal's start is the negative of the start: also of 99, -99 and 0", x -> {
            for (int start : new int[] {99, -99, 0, 1, -1}) {
                check.tells(x, 0, start, 1, 1);
                check.due("over(0, 0)", x.over(0, 0), 2);
                check.holdsSeries(x, 0, -start, 1, 100);
            }
        });
    }

    private static void powers() {
        check.test("Promise 9", "n: the exponent, 0 to 9; BAD if n is out of range", x -> {
            check.tells(x, 0, 1, 1, 1);
            for (int n = 0; n <= 9; n++) {
                check.due("power(0, " + n + ", 1)", x.power(0, n, 1), 2);
                check.holdsSeries(x, 1, n, 1, n);
            }
            check.refuses(x, "power(0, n, 1)", 0, 9, BAD, (y, n) -> y.power(0, n, 1));
        });
        check.test("Operations", "the power 0 is 1, starts at 0 and has the same length: of the farthest starts, of zeros", x -> {
            for (int start : new int[] {99, -99, 0}) {
                check.tells(x, 0, start, 7, 8, 9);
                check.due("power(0, 0, 1)", x.power(0, 0, 1), 3);
                check.holdsSeries(x, 1, 0, 1, 0, 0);
            }
            check.tells(x, 0, 50, 0, 0);
            x.power(0, 0, 1);
            check.holdsSeries(x, 1, 0, 1, 0);
            check.tells(x, 0, 50, 0);
            x.power(0, 0, 1);
            check.holdsSeries(x, 1, 0, 1);
            check.tells(x, 0, 50, Check.filled(3, 80));
            check.due("power(0, 0, 1)", x.power(0, 0, 1), 80);
            check.due("coefficient(1, 0)", x.coefficient(1, 0), 1);
            check.due("coefficient(1, 79)", x.coefficient(1, 79), 0);
            check.due("coefficient(1, 80)", x.coefficient(1, 80), NOT);
        });
        check.test("Operations", "the power n is the product of the power n - 1 and the series: from 1 to 9, of length 80", x -> {
            check.tells(x, 0, -2, Check.counted(80));
            check.due("power(0, 1, 1)", x.power(0, 1, 1), 80);
            check.holdsSeries(x, 1, -2, Check.counted(80));
            check.due("list(0, 80)", x.list(0, 80), 1);
            for (int n = 2; n <= 9; n++) {
                check.due("times(0, 1, 1)", x.times(0, 1, 1), 80);
                check.due("power(0, " + n + ", 2)", x.power(0, n, 2), 80);
                check.due("lay(0, 1)", x.lay(0, 1), 80);
                check.due("judge(0, 2)", x.judge(0, 2), NOT);
                check.due("of(2, 0)", x.of(2, 0), 1000 - 2 * n);
            }
        });
        check.test("Promise 9", "STATE if the start would be out of range: 99 and -99 are not, beyond them it is", x -> {
            int[][] cases = {{11, 9, 1}, {12, 9, 0}, {-11, 9, 1}, {-12, 9, 0}, {33, 3, 1}, {34, 3, 0}, {-33, 3, 1}, {-34, 3, 0}, {49, 2, 1},
                {50, 2, 0}, {-49, 2, 1}, {-50, 2, 0}, {99, 1, 1}, {-99, 1, 1}, {99, 2, 0}, {-99, 2, 0}, {99, 9, 0}, {99, 0, 1}, {-99, 0, 1}};
            for (int[] each : cases) {
                check.tells(x, 0, each[0], 1);
                check.due("the power " + each[1] + " of the start " + each[0], x.power(0, each[1], 1), each[2] == 1 ? 1 : STATE);
                if (each[2] == 1) {
                    check.due("of(1, 0)", x.of(1, 0), 1000 + each[0] * each[1]);
                }
            }
        });
    }

    private static void invariant() {
        check.test("Promise 3", "n: the length, 1 to 80; BAD if n is out of range", x -> {
            for (int n = 1; n <= 80; n++) {
                check.due("j(0, " + n + ")", x.j(0, n), n);
            }
            check.refuses(x, "j(0, n)", 1, 80, BAD, (y, n) -> y.j(0, n));
            check.due("of(0, 1)", x.of(0, 1), 80);
        });
        check.test("The invariant", "j of length n starts at -1 and has the length n, from 1 to 80", x -> {
            for (int n = 1; n <= 80; n++) {
                x.j(0, n);
                check.due("of(0, 1)", x.of(0, 1), n);
                check.due("of(0, 0)", x.of(0, 0), 999);
                check.due("the first coefficient", x.coefficient(0, -1), 1);
                check.due("behind the last", x.coefficient(0, n - 1), NOT);
            }
        });
        check.test("The invariant", "with all series cut to n coefficients: each length has the same coefficients", x -> {
            x.j(0, 80);
            check.due("list(0, 80)", x.list(0, 80), 1);
            check.due("lay(0, 0)", x.lay(0, 0), 80);
            for (int n = 1; n <= 80; n++) {
                x.j(1, n);
                check.due("judge(0, 1) for the length " + n, x.judge(0, 1), n < 80 ? n : NOT);
            }
        });
        check.test("The invariant", "all coefficients to the last one of the length 80, for each modulus", x -> {
            check.due("count(0)", x.count(0), 101);
            for (int p : MODULI) {
                Model m = new Model();
                m.prime(p);
                m.j(0, 80);
                CountedEquations y = new CountedEquations();
                y.prime(p);
                y.j(0, 80);
                for (int e = -1; e <= 78; e++) {
                    check.due("j modulo " + p + " at " + e, y.coefficient(0, e), m.coefficient(0, e));
                }
            }
        });
    }

    private static void newObject() {
        check.test("Promise 1", "in a new object everything is missing: series, lists, the equation, the places", x -> {
            check.holds("series", x.of(0, 0) == MISSING && x.of(5, 0) == MISSING);
            check.holds("lists", x.put(0, 0, 1) == MISSING && x.put(3, 0, 1) == MISSING);
            check.due("the equation", x.equation(0), MISSING);
            check.holds("places", x.drop(0) == MISSING && x.drop(7) == MISSING);
            for (int what = 1; what <= 4; what++) {
                check.due("count(" + what + ")", x.count(what), 0);
            }
        });
        check.test("Promise 1", "a new object has no image, and an empty tape and paper", x -> {
            check.due("back()", x.back(), STATE);
            check.due("paper(0)", x.paper(0), NONE);
            check.due("read()", x.read(), -100);
            check.due("deeds()", x.deeds(), -100);
            check.due("feed(49)", x.feed(49), 1);
        });
    }

    private static void prime() {
        check.test("Promise 2", "returns the previous modulus, also if it stays the same", x -> {
            check.due("prime(101)", x.prime(101), 101);
            check.due("prime(199)", x.prime(199), 101);
            check.due("prime(199)", x.prime(199), 199);
            check.due("prime(200)", x.prime(200), BAD);
            check.due("prime(5)", x.prime(5), 199);
            check.due("prime(7)", x.prime(7), 5);
        });
        check.test("Promise 2", "all series and the equation are missing afterwards", x -> {
            check.tellAll(x);
            check.reads(x, "1x1", 1);
            check.due("prime(7)", x.prime(7), 101);
            for (int s = 0; s <= 5; s++) {
                check.due("of(" + s + ", 0)", x.of(s, 0), MISSING);
            }
            check.due("equation(0)", x.equation(0), MISSING);
            check.due("count(1)", x.count(1), 0);
        });
        check.test("Promise 2", "the kept polynomials stay, all eight of them", x -> {
            long m = 1;
            for (int k = 0; k < 8; k++) {
                x.prime(MODULI[k]);
                check.reads(x, k + "x1", 1);
                check.due("keep(" + k + ")", x.keep(k), k + 1);
                m *= MODULI[k];
            }
            check.due("prime(5)", x.prime(5), MODULI[7]);
            check.due("count(2)", x.count(2), 8);
            check.due("whole()", x.whole(), m);
            for (int k = 7; k >= 0; k--) {
                check.due("drop(" + k + ")", x.drop(k), MODULI[k]);
            }
        });
        check.test("Promise 2", "the tape, the paper and the lists stay", x -> {
            check.reads(x, "5x1", 1);
            check.writes(x, "5x1");
            check.feedAll(x, "3");
            check.lists(x, 0, 150);
            check.due("prime(7)", x.prime(7), 101);
            check.due("get(0, 0)", x.get(0, 0), 150);
            check.due("paper(0)", x.paper(0), '5');
            check.due("count(3)", x.count(3), 1);
            check.due("read()", x.read(), 1);
            check.due("term(0, 0)", x.term(0, 0), 3);
        });
    }

    private static void told() {
        check.test("Promise 4", "start: the start, -99 to 99; BAD if it is out of range", x -> {
            check.lists(x, 0, 4, 5);
            for (int start = -99; start <= 99; start++) {
                check.due("tell(0, 0, " + start + ")", x.tell(0, 0, start), 2);
                check.due("of(0, 0)", x.of(0, 0), start + 1000);
            }
            check.refuses(x, "tell(0, 0, start)", -99, 99, BAD, (y, start) -> y.tell(0, 0, start));
        });
        check.test("Promise 4", "MISSING if the list is missing, STATE if it has no numbers, one number is enough", x -> {
            check.due("tell(0, 0, 0)", x.tell(0, 0, 0), MISSING);
            check.lists(x, 0);
            check.due("tell(0, 0, 0)", x.tell(0, 0, 0), STATE);
            check.lists(x, 0, 6);
            check.due("tell(0, 0, 0)", x.tell(0, 0, 0), 1);
            check.lists(x, 0, Check.counted(80));
            check.due("tell(0, 0, 0)", x.tell(0, 0, 0), 80);
        });
        check.test("Promise 4", "the numbers are taken modulo P, also the least and the greatest int", x -> {
            for (int p : SOME_MODULI) {
                x.prime(p);
                int[] numbers = {0, p - 1, p, p + 1, -1, -p + 1, -p, -p - 1, LEAST, LEAST + 1, GREATEST, GREATEST - 1};
                int[] due = new int[numbers.length];
                for (int t = 0; t < due.length; t++) {
                    due[t] = BigInteger.valueOf(numbers[t]).mod(BigInteger.valueOf(p)).intValue();
                }
                check.tells(x, 0, 0, numbers);
                check.holdsSeries(x, 0, 0, due);
            }
        });
    }

    /** A test for one argument that numbers a series: 0 to 5 are taken, all others are NONE. */
    private static void seriesNumber(String promise, String call, Check.Call of) {
        check.test(promise, call + ": s is a series, 0 to 5; NONE if there is no such series", x -> {
            check.tellAll(x);
            check.takesOnly(x, call, 0, 5, NONE, of);
        });
    }

    /** A test for one argument that numbers a series which is read: MISSING is answered if it is. */
    private static void missing(String promise, String call, Check.Call of) {
        check.test(promise, call + ": MISSING if s is missing", x -> {
            check.tells(x, 0, 0, 1, 2);
            for (int s = 1; s <= 5; s++) {
                check.due(call + " with " + s, of.answer(x, s), MISSING);
            }
            check.holds(call + " with 0", of.answer(x, 0) >= 0);
        });
    }

    private static void arguments() {
        seriesNumber("Promise 3", "j(s, 3)", (x, s) -> x.j(s, 3));
        seriesNumber("Promise 4", "tell(s, 3, 0)", (x, s) -> x.tell(s, 3, 0));
        check.test("Promise 4", "list: the list, 0 to 3; NONE if there is no such list", x -> {
            for (int l = 0; l <= 3; l++) {
                check.lists(x, l, 1);
            }
            check.takesOnly(x, "tell(0, l, 0)", 0, 3, NONE, (y, l) -> y.tell(0, l, 0));
        });
        seriesNumber("Promise 5", "sum(s, 0, 0)", (x, s) -> x.sum(s, 0, 0));
        seriesNumber("Promise 5", "sum(0, s, 0)", (x, s) -> x.sum(0, s, 0));
        seriesNumber("Promise 5", "sum(0, 0, s)", (x, s) -> x.sum(0, 0, s));
        missing("Promise 5", "sum(s, 0, 0)", (x, s) -> x.sum(s, 0, 0));
        missing("Promise 5", "sum(0, s, 0)", (x, s) -> x.sum(0, s, 0));
        seriesNumber("Promise 6", "times(s, 0, 0)", (x, s) -> x.times(s, 0, 0));
        seriesNumber("Promise 6", "times(0, s, 0)", (x, s) -> x.times(0, s, 0));
        seriesNumber("Promise 6", "times(0, 0, s)", (x, s) -> x.times(0, 0, s));
        missing("Promise 6", "times(s, 0, 0)", (x, s) -> x.times(s, 0, 0));
        missing("Promise 6", "times(0, s, 0)", (x, s) -> x.times(0, s, 0));
        seriesNumber("Promise 7", "stretch(s, 1, 0)", (x, s) -> x.stretch(s, 1, 0));
        seriesNumber("Promise 7", "stretch(0, 1, s)", (x, s) -> x.stretch(0, 1, s));
        missing("Promise 7", "stretch(s, 1, 0)", (x, s) -> x.stretch(s, 1, 0));
        seriesNumber("Promise 8", "over(s, 0)", (x, s) -> x.over(s, 0));
        seriesNumber("Promise 8", "over(0, s)", (x, s) -> x.over(0, s));
        missing("Promise 8", "over(s, 0)", (x, s) -> x.over(s, 0));
        seriesNumber("Promise 9", "power(s, 1, 0)", (x, s) -> x.power(s, 1, 0));
        seriesNumber("Promise 9", "power(0, 1, s)", (x, s) -> x.power(0, 1, s));
        missing("Promise 9", "power(s, 1, 0)", (x, s) -> x.power(s, 1, 0));
        seriesNumber("Promise 10", "of(s, 0)", (x, s) -> x.of(s, 0));
        missing("Promise 10", "of(s, 0)", (x, s) -> x.of(s, 0));
        seriesNumber("Promise 11", "coefficient(s, 0)", (x, s) -> x.coefficient(s, 0));
        missing("Promise 11", "coefficient(s, 0)", (x, s) -> x.coefficient(s, 0));
        check.test("Promises 5 and 6", "to: the series that is set; it may be one of the others, or missing", x -> {
            check.tells(x, 0, 0, 1, 2);
            check.tells(x, 1, 0, 3, 4);
            x.sum(0, 1, 0);
            check.holdsSeries(x, 0, 0, 4, 6);
            x.sum(0, 1, 1);
            check.holdsSeries(x, 1, 0, 7, 10);
            x.times(0, 1, 0);
            check.holdsSeries(x, 0, 0, 28, 82);
            x.times(0, 1, 1);
            check.holdsSeries(x, 1, 0, 95, (280 + 574) % 101);
            x.times(0, 0, 0);
            check.holdsSeries(x, 0, 0, 784 % 101, 2 * 28 * 82 % 101);
            check.due("sum(0, 0, 5)", x.sum(0, 0, 5), 2);
            check.due("times(0, 0, 4)", x.times(0, 0, 4), 2);
        });
        check.test("Promises 7 to 9", "to: the series that is set; it may be the same, or missing", x -> {
            check.tells(x, 0, 1, 2, 3);
            x.stretch(0, 2, 0);
            check.holdsSeries(x, 0, 2, 2, 0, 3, 0);
            x.power(0, 2, 0);
            check.holdsSeries(x, 0, 4, 4, 0, 12, 0);
            x.over(0, 0);
            // 1 / (4 + 12 q^2) = 76 * (1 - 3 q^2)
            check.holdsSeries(x, 0, -4, 76, 0, 75, 0);
            check.due("stretch(0, 1, 1)", x.stretch(0, 1, 1), 4);
            check.due("power(0, 1, 2)", x.power(0, 1, 2), 4);
            check.due("over(0, 3)", x.over(0, 3), 4);
        });
    }

    private static void properties() {
        check.test("Promise 10", "what: 0 to 2; NONE if what is not valid", x -> {
            check.tellAll(x);
            check.takesOnly(x, "of(0, what)", 0, 2, NONE, (y, what) -> y.of(0, what));
        });
        check.test("Promise 10", "0 the start plus 1000: from 901 to 1099", x -> {
            for (int start : new int[] {-99, -1, 0, 99}) {
                check.tells(x, 0, start, 1);
                check.due("of(0, 0)", x.of(0, 0), start + 1000);
            }
        });
        check.test("Promise 10", "1 the length: from 1 to 80", x -> {
            x.j(0, 1);
            check.due("of(0, 1)", x.of(0, 1), 1);
            x.j(0, 80);
            check.due("of(0, 1)", x.of(0, 1), 80);
        });
        check.test("Promise 10", "2 the lowest exponent whose coefficient is not 0: the first, the last, from 901 to 1178", x -> {
            check.tells(x, 0, -99, 1, 1);
            check.due("of(0, 2)", x.of(0, 2), 901);
            check.tells(x, 0, 0, 0, 1, 2);
            check.due("of(0, 2)", x.of(0, 2), 1001);
            int[] numbers = new int[80];
            numbers[79] = 100;
            check.tells(x, 0, 99, numbers);
            check.due("of(0, 2)", x.of(0, 2), 1178);
        });
        check.test("Promise 10", "NOT if what is 2 and there is no such exponent, for the lengths 1 and 80", x -> {
            check.tells(x, 0, 5, Check.filled(3, 80));
            check.tells(x, 0, 5, 0);
            check.due("of(0, 2)", x.of(0, 2), NOT);
            check.tells(x, 0, 5, Check.filled(101, 80));
            check.due("of(0, 2)", x.of(0, 2), NOT);
            check.due("of(0, 0)", x.of(0, 0), 1005);
        });
    }

    private static void coefficients() {
        check.test("Promise 11", "e: the exponent, any int", x -> {
            check.tells(x, 0, 0, 7);
            check.due("coefficient(0, -1)", x.coefficient(0, -1), 0);
            check.due("coefficient(0, 0)", x.coefficient(0, 0), 7);
            check.due("coefficient(0, 1)", x.coefficient(0, 1), NOT);
            check.due("coefficient(0, LEAST)", x.coefficient(0, LEAST), 0);
            check.due("coefficient(0, GREATEST)", x.coefficient(0, GREATEST), NOT);
        });
        check.test("Promise 11", "NOT if the coefficient is unknown: behind 80 coefficients, not one earlier", x -> {
            check.tells(x, 0, 99, Check.counted(80));
            check.due("coefficient(0, 178)", x.coefficient(0, 178), 80);
            check.due("coefficient(0, 179)", x.coefficient(0, 179), NOT);
            check.tells(x, 0, -99, Check.counted(80));
            check.due("coefficient(0, -20)", x.coefficient(0, -20), 80);
            check.due("coefficient(0, -19)", x.coefficient(0, -19), NOT);
        });
    }
}
