import java.math.BigInteger;

/** A test for each sentence about kept polynomials that names a boundary: Kept polynomials, promises 21 to 24. */
public final class KeptBoundsTest {
    private static final int NONE = -1, STATE = -3, MISSING = -11;
    private static final long NO = Long.MIN_VALUE;
    private static final int[] LOWEST = {5, 7, 11, 13, 17, 19, 23, 29};
    private static final int[] GREATEST = {199, 197, 193, 191, 181, 179, 173, 167};
    private static final Check check = new Check("KeptBoundsTest");

    public static void main(String[] args) {
        places();
        moduli();
        product();
        coefficients();
        wrapping();
        arguments();
        check.end();
    }

    /** Keeps constant + x with a modulus; the constant may be any integer. */
    private static void keep(CountedEquations x, int place, int p, long constant) {
        x.prime(p);
        check.reads(x, Math.floorMod(constant, (long) p) + "+1x1", 1);
        check.holds("keep(" + place + ") modulo " + p, x.keep(place) > 0);
    }

    private static void keepEight(CountedEquations x, int[] primes, long constant) {
        for (int k = 0; k < 8; k++) {
            keep(x, k, primes[k], constant);
        }
    }

    private static long productOf(int[] primes) {
        BigInteger m = BigInteger.ONE;
        for (int p : primes) {
            m = m.multiply(BigInteger.valueOf(p));
        }
        return m.longValueExact();
    }

    private static void places() {
        check.test("Kept polynomials", "there are eight places, numbered 0 to 7, which are missing at first", x -> {
            for (int k = 0; k <= 7; k++) {
                check.due("drop(" + k + ")", x.drop(k), MISSING);
            }
            check.refuses(x, "drop(k)", 0, 7, NONE, (y, k) -> y.drop(k));
            check.due("count(2)", x.count(2), 0);
            check.due("whole()", x.whole(), NO);
            check.due("joined(0, 0)", x.joined(0, 0), NO);
        });
        check.test("Promise 21", "returns the number of places that are not missing: from 1 to 8, and 8 again", x -> {
            for (int k = 0; k < 8; k++) {
                x.prime(LOWEST[k]);
                check.reads(x, "1x1", 1);
                check.due("keep(" + (7 - k) + ")", x.keep(7 - k), k + 1);
                check.due("count(2)", x.count(2), k + 1);
            }
            check.due("keep(0) again", x.keep(0), 8);
            x.prime(31);
            check.reads(x, "1x1", 1);
            check.due("keep(7) with another modulus", x.keep(7), 8);
        });
        check.test("Promise 22", "returns the modulus that the place had, until all are missing", x -> {
            keepEight(x, LOWEST, 1);
            for (int k = 0; k < 8; k++) {
                check.due("drop(" + k + ")", x.drop(k), LOWEST[k]);
                check.due("drop(" + k + ") again", x.drop(k), MISSING);
                check.due("count(2)", x.count(2), 7 - k);
            }
            check.due("whole()", x.whole(), NO);
            check.due("joined(0, 0)", x.joined(0, 0), NO);
        });
        check.test("Kept polynomials", "each place holds a polynomial and its modulus: the equation and P may change", x -> {
            keep(x, 0, 199, 198);
            keep(x, 7, 5, 4);
            x.prime(101);
            check.reads(x, "7x8", 8);
            check.due("drop(7)", x.drop(7), 5);
            check.due("joined(0, 0)", x.joined(0, 0), -1);
            check.due("joined(1, 0)", x.joined(1, 0), 1);
            check.due("whole()", x.whole(), 199);
        });
    }

    private static void moduli() {
        check.test("Promise 21", "STATE if another place has the present modulus: each other place, whichever it is", x -> {
            for (int owner = 0; owner < 8; owner += 7) {
                keep(x, owner, 101, 1);
                for (int k = 0; k < 8; k++) {
                    check.due("keep(" + k + ")", x.keep(k), k == owner ? 1 : STATE);
                }
                check.due("drop(" + owner + ")", x.drop(owner), 101);
            }
        });
        check.test("Promise 21", "STATE also for a place that is not missing, which keeps what it has", x -> {
            keep(x, 0, 5, 1);
            keep(x, 1, 7, 2);
            check.due("keep(0)", x.keep(0), STATE);
            check.due("drop(0)", x.drop(0), 5);
            check.due("keep(0)", x.keep(0), STATE);
            check.due("count(2)", x.count(2), 1);
        });
        check.test("Details", "a place can be kept again with the modulus that it has, also when all eight are kept", x -> {
            keepEight(x, LOWEST, 1);
            check.reads(x, "7+1x1", 1);
            check.due("keep(7)", x.keep(7), 8);
            for (int k = 0; k < 7; k++) {
                check.due("keep(" + k + ")", x.keep(k), STATE);
            }
            for (int k = 0; k < 7; k++) {
                check.due("drop(" + k + ")", x.drop(k), LOWEST[k]);
            }
            check.due("joined(0, 0)", x.joined(0, 0), 7);
        });
        check.test("Kept polynomials", "all moduli are different: one is free again when its place is dropped or kept with another", x -> {
            keep(x, 0, 5, 1);
            check.due("keep(1)", x.keep(1), STATE);
            check.due("drop(0)", x.drop(0), 5);
            check.due("keep(1)", x.keep(1), 1);
            keep(x, 1, 7, 2);
            x.prime(5);
            check.reads(x, "3", 1);
            check.due("keep(0)", x.keep(0), 2);
            check.due("whole()", x.whole(), 35);
        });
    }

    private static void product() {
        check.test("Kept polynomials", "M is the product of the moduli of all places that are not missing: of none, one and two", x -> {
            check.due("whole()", x.whole(), NO);
            keep(x, 3, 5, 1);
            check.due("whole()", x.whole(), 5);
            keep(x, 6, 199, 1);
            check.due("whole()", x.whole(), 995);
            x.drop(3);
            check.due("whole()", x.whole(), 199);
            x.drop(6);
            check.due("whole()", x.whole(), NO);
        });
        check.test("Promise 24", "the greatest M, of the eight greatest moduli, still fits into a long", x -> {
            keepEight(x, GREATEST, 1);
            check.due("whole()", x.whole(), productOf(GREATEST));
            check.holds("it is beyond 2^60", x.whole() > 1L << 60);
        });
        check.test("Promise 24", "M beyond 2^31 and 2^53 is exact", x -> {
            long m = 1;
            for (int k = 0; k < 8; k++) {
                keep(x, k, GREATEST[k], 1);
                m *= GREATEST[k];
                check.due("whole()", x.whole(), m);
            }
        });
        check.test("Promise 24", "different degrees do not matter for M", x -> {
            keep(x, 0, 5, 1);
            x.prime(7);
            check.reads(x, "1x8", 8);
            check.due("keep(1)", x.keep(1), 2);
            check.due("whole()", x.whole(), 35);
        });
    }

    private static void coefficients() {
        check.test("Kept polynomials", "c is congruent to all coefficients, with -M < 2c <= M: all c of one place", x -> {
            for (int c = 0; c < 5; c++) {
                keep(x, 0, 5, c);
                check.due("joined(0, 0) of " + c, x.joined(0, 0), c <= 2 ? c : c - 5);
            }
            for (int c : new int[] {0, 1, 98, 99, 100, 101, 197, 198}) {
                keep(x, 0, 199, c);
                check.due("joined(0, 0) of " + c, x.joined(0, 0), c <= 99 ? c : c - 199);
            }
        });
        check.test("Kept polynomials", "c is congruent to all coefficients, with -M < 2c <= M: the greatest and the least c of two places", x -> {
            for (int c : new int[] {497, -497, 496, -496, 0, 1, -1}) {
                keep(x, 5, 5, c);
                keep(x, 2, 199, c);
                check.due("joined(0, 0)", x.joined(0, 0), c);
                check.due("joined(1, 0)", x.joined(1, 0), 1);
                check.due("joined(0, 1)", x.joined(0, 1), 0);
            }
        });
        check.test("Promise 23", "the greatest and the least c of the eight greatest moduli", x -> {
            long m = productOf(GREATEST);
            for (long c : new long[] {m / 2, -(m / 2), 0, -1, m / 2 - 1, 1 - m / 2}) {
                CountedEquations y = new CountedEquations();
                keepEight(y, GREATEST, c);
                check.due("joined(0, 0)", y.joined(0, 0), c);
                check.due("joined(1, 0)", y.joined(1, 0), 1);
                check.due("joined(0, 1)", y.joined(0, 1), 0);
            }
        });
        check.test("Promise 23", "the coefficients of all terms of degree 8, to the last one", x -> {
            x.prime(5);
            check.reads(x, "1+2x8+3y8+4x8y8", 8);
            check.due("keep(0)", x.keep(0), 1);
            x.prime(7);
            check.reads(x, "1+2x8+3y8+4x8y8", 8);
            check.due("keep(1)", x.keep(1), 2);
            check.due("joined(0, 0)", x.joined(0, 0), 1);
            check.due("joined(8, 0)", x.joined(8, 0), 2);
            check.due("joined(0, 8)", x.joined(0, 8), 3);
            check.due("joined(8, 8)", x.joined(8, 8), 4);
            check.due("joined(7, 8)", x.joined(7, 8), 0);
            check.due("joined(9, 8)", x.joined(9, 8), NO);
            check.due("joined(8, 9)", x.joined(8, 9), NO);
        });
    }

    private static void wrapping() {
        check.test("Kept polynomials", "a c just beyond the bound wraps around: (M + 1) / 2 becomes (1 - M) / 2", x -> {
            long m = productOf(GREATEST);
            keepEight(x, GREATEST, m / 2 + 1);
            check.due("joined(0, 0)", x.joined(0, 0), -(m / 2));
        });
        check.test("Kept polynomials", "a c just below the bound wraps around: -(M + 1) / 2 becomes (M - 1) / 2", x -> {
            long m = productOf(GREATEST);
            keepEight(x, GREATEST, -(m / 2) - 1);
            check.due("joined(0, 0)", x.joined(0, 0), m / 2);
        });
    }

    private static void arguments() {
        check.test("Promise 21", "k: the place, 0 to 7; NONE", x -> {
            for (int k = 0; k <= 7; k++) {
                CountedEquations y = new CountedEquations();
                check.reads(y, "1", 1);
                check.due("keep(" + k + ")", y.keep(k), 1);
                check.due("drop(" + k + ")", y.drop(k), 101);
            }
            check.reads(x, "1", 1);
            check.refuses(x, "keep(k)", 0, 7, NONE, (y, k) -> y.keep(k));
            check.due("count(2)", x.count(2), 0);
        });
        check.test("Promise 21", "MISSING if the equation is missing", x -> {
            check.due("keep(0)", x.keep(0), MISSING);
            check.reads(x, "0", 1);
            check.due("keep(0) of the polynomial 0", x.keep(0), 1);
            x.prime(7);
            check.due("keep(1)", x.keep(1), MISSING);
            check.due("count(2)", x.count(2), 1);
        });
        check.test("Promise 22", "k: the place; NONE; MISSING for each place that is", x -> {
            keep(x, 3, 5, 1);
            check.refuses(x, "drop(k)", 0, 7, NONE, (y, k) -> y.drop(k));
            for (int k = 0; k <= 7; k++) {
                check.due("drop(" + k + ")", x.drop(k), k == 3 ? 5 : MISSING);
            }
        });
        check.test("Promise 23", "NO if i or k is not from 0 to the degree", x -> {
            for (int d = 1; d <= 8; d += 7) {
                x.prime(d == 1 ? 5 : 199);
                check.reads(x, "1x" + d, d);
                check.due("keep(0)", x.keep(0), 1);
                check.takesOnly(x, "joined(i, 0)", 0, d, NO, (y, i) -> y.joined(i, 0));
                check.takesOnly(x, "joined(0, k)", 0, d, NO, (y, k) -> y.joined(0, k));
                check.due("joined(d, d)", x.joined(d, d), 0);
                check.due("joined(d + 1, d + 1)", x.joined(d + 1, d + 1), NO);
            }
        });
        check.test("Promise 23", "NO if all places are missing", x -> {
            check.due("joined(0, 0)", x.joined(0, 0), NO);
            keep(x, 0, 5, 1);
            check.due("joined(0, 0)", x.joined(0, 0), 1);
            x.drop(0);
            check.due("joined(0, 0)", x.joined(0, 0), NO);
        });
        check.test("Promise 23", "NO if the degrees differ, in the first or the last place alone", x -> {
            for (int odd = 0; odd <= 7; odd += 7) {
                CountedEquations y = new CountedEquations();
                keepEight(y, LOWEST, 3);
                check.due("joined(0, 0)", y.joined(0, 0), 3);
                y.prime(31);
                check.reads(y, "1+1x2", 2);
                check.due("keep(" + odd + ")", y.keep(odd), 8);
                check.due("joined(0, 0)", y.joined(0, 0), NO);
                check.due("joined(1, 0)", y.joined(1, 0), NO);
                check.due("drop(" + odd + ")", y.drop(odd), 31);
                check.due("joined(0, 0)", y.joined(0, 0), 3);
            }
            check.due("count(2)", x.count(2), 0);
        });
    }
}
