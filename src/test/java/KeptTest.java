/** Promises 21 to 24: kept polynomials. */
public final class KeptTest {
    private static final int NONE = -1, STATE = -3, MISSING = -11;
    private static final long NO = Long.MIN_VALUE;
    private static final int[] NO_PLACES = {-1, 8, 9, Integer.MIN_VALUE, Integer.MAX_VALUE};
    private static final int[] GREATEST = {199, 197, 193, 191, 181, 179, 173, 167};
    private static final Check check = new Check("KeptTest");

    public static void main(String[] args) {
        keep();
        drop();
        joined();
        joinedEight();
        whole();
        check.end();
    }

    private static void keepConstant(CountedEquations x, int place, int p, int constant, int count) {
        x.prime(p);
        check.reads(x, constant + "+1x1", 1);
        check.due("keep(" + place + ")", x.keep(place), count);
    }

    private static void keep() {
        check.promise(21, "keep");
        CountedEquations x = new CountedEquations();
        check.due("keep(0)", x.keep(0), MISSING);
        for (int k : NO_PLACES) {
            check.due("keep(" + k + ")", x.keep(k), NONE);
        }
        keepConstant(x, 7, 101, 3, 1);
        check.due("keep(0)", x.keep(0), STATE);
        check.reads(x, "9", 1);
        check.due("keep(7)", x.keep(7), 1);
        check.due("joined(0, 0)", x.joined(0, 0), 9);
        check.due("joined(1, 0)", x.joined(1, 0), 0);
        keepConstant(x, 0, 5, 1, 2);
        check.due("keep(7)", x.keep(7), STATE);
        check.due("joined(0, 0)", x.joined(0, 0), 211);
        // In place of another modulus, which is free again then.
        keepConstant(x, 7, 11, 1, 2);
        check.due("whole()", x.whole(), 55);
        keepConstant(x, 6, 101, 1, 3);
        check.due("whole()", x.whole(), 5555);
        check.due("the equation stays", x.term(0, 0), 1);
        check.reads(x, "50", 1);
        check.due("what is kept stays", x.joined(1, 0), 1);
        for (int k : NO_PLACES) {
            check.due("keep(" + k + ")", x.keep(k), NONE);
        }
        x.prime(7);
        check.due("keep(5)", x.keep(5), MISSING);
        check.due("keep(6)", x.keep(6), MISSING);
        check.due("count(2)", x.count(2), 3);
    }

    private static void drop() {
        check.promise(22, "drop");
        CountedEquations x = new CountedEquations();
        keepConstant(x, 3, 13, 3, 1);
        keepConstant(x, 4, 17, 3, 2);
        for (int k : NO_PLACES) {
            check.due("drop(" + k + ")", x.drop(k), NONE);
        }
        check.due("drop(0)", x.drop(0), MISSING);
        check.due("drop(3)", x.drop(3), 13);
        check.due("count(2)", x.count(2), 1);
        check.due("whole()", x.whole(), 17);
        check.due("drop(3)", x.drop(3), MISSING);
        check.due("drop(4)", x.drop(4), 17);
        check.due("count(2)", x.count(2), 0);
        check.due("the equation stays", x.equation(0), 1);
        check.due("keep(5)", x.keep(5), 1);
    }

    private static void joined() {
        check.promise(23, "joined");
        CountedEquations x = new CountedEquations();
        check.due("joined(0, 0)", x.joined(0, 0), NO);
        keepConstant(x, 2, 5, 2, 1);
        check.due("joined(0, 0)", x.joined(0, 0), 2);
        keepConstant(x, 2, 5, 3, 1);
        check.due("joined(0, 0)", x.joined(0, 0), -2);
        // All numbers modulo 35: 17 is the greatest one, -17 the lowest one.
        for (int c = -17; c <= 17; c++) {
            keepConstant(x, 2, 5, Math.floorMod(c, 5), c == -17 ? 1 : 2);
            keepConstant(x, 1, 7, Math.floorMod(c, 7), 2);
            check.due("joined(0, 0)", x.joined(0, 0), c);
            check.due("joined(1, 0)", x.joined(1, 0), 1);
            check.due("joined(0, 1)", x.joined(0, 1), 0);
            if (c % 10 == 0) {
                x = renewed();
            }
        }
        for (int i : new int[] {-1, 2, 8, 9, Integer.MIN_VALUE, Integer.MAX_VALUE}) {
            check.due("joined(" + i + ", 0)", x.joined(i, 0), NO);
            check.due("joined(0, " + i + ")", x.joined(0, i), NO);
        }
        x.prime(11);
        check.reads(x, "1x2", 2);
        check.due("keep(0)", x.keep(0), 3);
        check.due("joined(0, 0) of different degrees", x.joined(0, 0), NO);
        check.due("whole() of different degrees", x.whole(), 385);
        check.due("drop(1)", x.drop(1), 7);
        check.due("joined(0, 0) of different degrees", x.joined(0, 0), NO);
        check.due("drop(2)", x.drop(2), 5);
        check.due("joined(2, 0)", x.joined(2, 0), 1);
        check.due("joined(2, 2)", x.joined(2, 2), 0);
    }

    /** A new object with both places kept, since an object answers for 512 calls only. */
    private static CountedEquations renewed() {
        CountedEquations y = new CountedEquations();
        keepConstant(y, 2, 5, 1, 1);
        keepConstant(y, 1, 7, 1, 2);
        return y;
    }

    private static void joinedEight() {
        check.promise(23, "joined, eight places");
        long m = 1;
        for (int p : GREATEST) {
            m *= p;
        }
        for (long c : new long[] {0, 1, -1, 157464000000000L, -157464000000000L, m / 2, m / 2 - 1, -(m / 2), 123456789012345678L}) {
            CountedEquations x = new CountedEquations();
            for (int k = 0; k < 8; k++) {
                keepConstant(x, 7 - k, GREATEST[k], (int) Math.floorMod(c, (long) GREATEST[k]), k + 1);
            }
            check.due("joined(0, 0)", x.joined(0, 0), c);
            check.due("joined(1, 0)", x.joined(1, 0), 1);
            check.due("whole()", x.whole(), m);
        }
    }

    private static void whole() {
        check.promise(24, "whole");
        CountedEquations x = new CountedEquations();
        check.due("whole()", x.whole(), NO);
        keepConstant(x, 0, 199, 3, 1);
        check.due("whole()", x.whole(), 199);
        keepConstant(x, 1, 197, 3, 2);
        check.due("whole()", x.whole(), 199 * 197);
        check.due("drop(0)", x.drop(0), 199);
        check.due("whole()", x.whole(), 197);
        check.due("drop(1)", x.drop(1), 197);
        check.due("whole()", x.whole(), NO);
    }
}
