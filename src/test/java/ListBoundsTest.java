/** A test for each sentence about lists, the image and the counts that names a boundary: Lists, promises 30 to 37. */
public final class ListBoundsTest {
    private static final int NONE = -1, BAD = -2, STATE = -3, NOT = -5, MISSING = -11, NO_INDEX = -13, NEGATIVE = -14;
    private static final long NO = Long.MIN_VALUE;
    private static final int LEAST = Check.LEAST_INT, GREATEST = Check.GREATEST_INT;
    private static final Check check = new Check("ListBoundsTest");

    public static void main(String[] args) {
        lists();
        makingLists();
        numbers();
        laying();
        judging();
        layAndJudgeArguments();
        images();
        counts();
        check.end();
    }

    private static void lists() {
        check.test("Lists", "there are four lists, numbered 0 to 3, all missing at first", x -> {
            for (int l = 0; l <= 3; l++) {
                check.due("put(" + l + ", 0, 1)", x.put(l, 0, 1), MISSING);
                check.due("get(" + l + ", 0)", x.get(l, 0), NO);
            }
            check.refuses(x, "put(l, 0, 1)", 0, 3, NONE, (y, l) -> y.put(l, 0, 1));
        });
        check.test("Lists", "there are four lists: each has a length and numbers of its own", x -> {
            for (int l = 0; l <= 3; l++) {
                check.lists(x, l, Check.filled(l + 1, l + 1));
            }
            for (int l = 0; l <= 3; l++) {
                check.due("get(" + l + ", " + l + ")", x.get(l, l), l + 1);
                check.due("get(" + l + ", " + (l + 1) + ")", x.get(l, l + 1), NO);
            }
        });
        check.test("Lists", "a list holds 0 to 80 ints: 0 numbers are not the same as missing", x -> {
            check.due("list(0, 0)", x.list(0, 0), 1);
            check.due("put(0, 0, 1)", x.put(0, 0, 1), NO_INDEX);
            check.due("put(1, 0, 1)", x.put(1, 0, 1), MISSING);
            check.due("get(0, 0)", x.get(0, 0), NO);
        });
        check.test("Lists", "a list holds 0 to 80 ints: 80 numbers, each of them an int of its own", x -> {
            check.due("list(0, 80)", x.list(0, 80), 1);
            for (int i = 0; i < 80; i++) {
                check.due("put(0, " + i + ", v)", x.put(0, i, GREATEST - i), 1);
            }
            for (int i = 0; i < 80; i++) {
                check.due("get(0, " + i + ")", x.get(0, i), GREATEST - i);
            }
            check.due("put(0, 80, 1)", x.put(0, 80, 1), NO_INDEX);
            check.due("get(0, 80)", x.get(0, 80), NO);
        });
    }

    private static void makingLists() {
        check.test("Promise 30", "list: the list, 0 to 3; NONE if there is no such list",
            x -> check.takesOnly(x, "list(l, 5)", 0, 3, NONE, (y, l) -> y.list(l, 5)));
        check.test("Promise 30", "n: BAD if it is greater than 80, which is still taken", x -> {
            check.takes(x, "list(0, n)", 0, 80, (y, n) -> y.list(0, n));
            for (int n : new int[] {81, 82, 100, 1000, GREATEST - 1, GREATEST}) {
                check.due("list(0, " + n + ")", x.list(0, n), BAD);
            }
            check.due("get(0, 79)", x.get(0, 79), 0);
        });
        check.test("Promise 30", "n: -14 if it is negative, 0 is still taken", x -> {
            check.lists(x, 0, 7);
            for (int n : new int[] {-1, -2, -14, -80, LEAST + 1, LEAST}) {
                check.due("list(0, " + n + ")", x.list(0, n), NEGATIVE);
            }
            check.due("get(0, 0)", x.get(0, 0), 7);
            check.due("list(0, 0)", x.list(0, 0), 1);
            check.due("get(0, 0)", x.get(0, 0), NO);
        });
        check.test("Promise 30", "makes a list hold n numbers 0, whatever it held", x -> {
            check.lists(x, 0, Check.filled(9, 80));
            check.due("list(0, 1)", x.list(0, 1), 1);
            check.due("get(0, 0)", x.get(0, 0), 0);
            check.due("get(0, 1)", x.get(0, 1), NO);
            check.due("list(0, 80)", x.list(0, 80), 1);
            for (int i = 0; i < 80; i++) {
                check.due("get(0, " + i + ")", x.get(0, i), 0);
            }
        });
    }

    private static void numbers() {
        check.test("Promise 31", "list: the list; NONE if there is no such list", x -> {
            for (int l = 0; l <= 3; l++) {
                check.lists(x, l, 1);
            }
            check.takesOnly(x, "put(l, 0, 5)", 0, 3, NONE, (y, l) -> y.put(l, 0, 5));
        });
        check.test("Promise 31", "i: the index; -13 if there is no such index, of the lengths 0, 1, 3 and 80", x -> {
            for (int n : new int[] {0, 1, 3, 80}) {
                check.due("list(0, n)", x.list(0, n), 1);
                if (n > 0) {
                    check.due("put(0, 0, 4)", x.put(0, 0, 4), 1);
                    check.due("put(0, n - 1, 5)", x.put(0, n - 1, 5), 1);
                    check.due("get(0, n - 1)", x.get(0, n - 1), 5);
                }
                check.refuses(x, "put(0, i, 6)", 0, n - 1, NO_INDEX, (y, i) -> y.put(0, i, 6));
            }
        });
        check.test("Promise 31", "v: the number, any int; nothing wraps around", x -> {
            check.due("list(0, 4)", x.list(0, 4), 1);
            for (int v : new int[] {LEAST, LEAST + 1, -1, 0, 1, GREATEST - 1, GREATEST}) {
                check.due("put(0, 3, " + v + ")", x.put(0, 3, v), 1);
                check.due("get(0, 3)", x.get(0, 3), v);
                check.due("get(0, 2)", x.get(0, 2), 0);
            }
        });
        check.test("Promise 31", "MISSING, for each list and any index", x -> {
            for (int l = 0; l <= 3; l++) {
                for (int i : new int[] {-1, 0, 80}) {
                    check.due("put(" + l + ", " + i + ", 1)", x.put(l, i, 1), MISSING);
                }
            }
        });
        check.test("Promise 32", "NO if there is no such list, or it is missing", x -> {
            check.refuses(x, "get(l, 0)", 0, 3, NO, (y, l) -> y.get(l, 0));
            for (int l = 0; l <= 3; l++) {
                check.due("get(" + l + ", 0)", x.get(l, 0), NO);
                check.due("get(" + l + ", -1)", x.get(l, -1), NO);
            }
            for (int l = 0; l <= 3; l++) {
                check.lists(x, l, l);
                check.due("get(" + l + ", 0)", x.get(l, 0), l);
            }
            check.refuses(x, "get(l, 0)", 0, 3, NO, (y, l) -> y.get(l, 0));
        });
        check.test("Promise 32", "NO if there is no such index, of the lengths 0, 1, 3 and 80", x -> {
            for (int n : new int[] {0, 1, 3, 80}) {
                check.due("list(0, n)", x.list(0, n), 1);
                check.takesOnly(x, "get(0, i)", 0, n - 1, NO, (y, i) -> y.get(0, i));
            }
        });
        check.test("Promise 32", "the number LEAST is no error: it is not NO", x -> {
            check.lists(x, 0, LEAST);
            check.due("get(0, 0)", x.get(0, 0), -2147483648L);
        });
    }

    private static void laying() {
        check.test("Promise 33", "as many as both have: a longer list keeps the numbers behind them", x -> {
            check.tells(x, 0, 5, 3, -1);
            check.lists(x, 0, 70, 71, 72, 73);
            check.due("lay(0, 0)", x.lay(0, 0), 2);
            check.due("get(0, 0)", x.get(0, 0), 3);
            check.due("get(0, 1)", x.get(0, 1), 100);
            check.due("get(0, 2)", x.get(0, 2), 72);
            check.due("get(0, 3)", x.get(0, 3), 73);
        });
        check.test("Promise 33", "as many as both have: a shorter list stays as long as it is", x -> {
            check.tells(x, 0, 5, 3, 4, 6);
            check.lists(x, 0, 70, 71);
            check.due("lay(0, 0)", x.lay(0, 0), 2);
            check.due("get(0, 1)", x.get(0, 1), 4);
            check.due("get(0, 2)", x.get(0, 2), NO);
            check.due("put(0, 2, 1)", x.put(0, 2, 1), NO_INDEX);
        });
        check.test("Promise 33", "0 to 80 coefficients are copied, from the start on, whatever the start is", x -> {
            check.lists(x, 0);
            check.tells(x, 0, 99, 5);
            check.due("lay(0, 0)", x.lay(0, 0), 0);
            check.due("get(0, 0)", x.get(0, 0), NO);
            for (int start : new int[] {-99, 99}) {
                check.tells(x, 0, start, Check.counted(80));
                check.due("list(0, 80)", x.list(0, 80), 1);
                check.due("lay(0, 0)", x.lay(0, 0), 80);
                check.due("get(0, 0)", x.get(0, 0), 1);
                check.due("get(0, 79)", x.get(0, 79), 80);
            }
        });
    }

    private static void judging() {
        check.test("Promise 34", "the lowest index at which the number differs: the first, the last, the lower one of two", x -> {
            check.tells(x, 0, 5, 3, 4, 6);
            check.lists(x, 0, 2, 4, 6);
            check.due("judge(0, 0)", x.judge(0, 0), 0);
            check.lists(x, 0, 3, 4, 5);
            check.due("judge(0, 0)", x.judge(0, 0), 2);
            check.lists(x, 0, 3, 5, 7);
            check.due("judge(0, 0)", x.judge(0, 0), 1);
        });
        check.test("Promise 34", "the lowest index at which the series has no coefficient: behind the last one, also with a 0", x -> {
            check.tells(x, 0, 5, 3, 4, 6);
            check.lists(x, 0, 3, 4, 6, 0);
            check.due("judge(0, 0)", x.judge(0, 0), 3);
            check.lists(x, 0, 3, 4, 6, 0, 0);
            check.due("judge(0, 0)", x.judge(0, 0), 3);
            // The series was longer once, and what was there must not be seen.
            check.tells(x, 0, 5, 3, 4);
            check.lists(x, 0, 3, 4, 6);
            check.due("judge(0, 0)", x.judge(0, 0), 2);
        });
        check.test("Promise 34", "NOT if there is no such index: an empty list, a shorter one, one of the same length, 80 numbers", x -> {
            check.tells(x, 0, 5, Check.counted(80));
            check.lists(x, 0);
            check.due("judge(0, 0)", x.judge(0, 0), NOT);
            check.lists(x, 0, 1, 2);
            check.due("judge(0, 0)", x.judge(0, 0), NOT);
            check.lists(x, 0, Check.counted(80));
            check.due("judge(0, 0)", x.judge(0, 0), NOT);
            check.due("put(0, 79, 0)", x.put(0, 79, 0), 1);
            check.due("judge(0, 0)", x.judge(0, 0), 79);
        });
        check.test("Promise 34", "the numbers are compared as they are: -1 is not P - 1, P is not 0", x -> {
            check.tells(x, 0, 5, -1, 101);
            check.lists(x, 0, -1, 0);
            check.due("judge(0, 0)", x.judge(0, 0), 0);
            check.lists(x, 0, 201, 0);
            check.due("judge(0, 0)", x.judge(0, 0), 0);
            check.lists(x, 0, 100, 101);
            check.due("judge(0, 0)", x.judge(0, 0), 1);
            check.lists(x, 0, 100, 0);
            check.due("judge(0, 0)", x.judge(0, 0), NOT);
        });
    }

    private static void layAndJudgeArguments() {
        check.test("Promise 33", "list, series: NONE if one of both does not exist, MISSING if one of both is missing", x -> {
            check.tellAll(x);
            check.due("lay(0, 0)", x.lay(0, 0), MISSING);
            for (int l = 0; l <= 3; l++) {
                check.lists(x, l, 1, 2);
            }
            check.takesOnly(x, "lay(l, 0)", 0, 3, NONE, (y, l) -> y.lay(l, 0));
            check.takesOnly(x, "lay(0, s)", 0, 5, NONE, (y, s) -> y.lay(0, s));
            x.prime(7);
            check.due("lay(0, 5)", x.lay(0, 5), MISSING);
        });
        check.test("Promise 34", "list, series: NONE if one of both does not exist, MISSING if one of both is missing", x -> {
            check.tellAll(x);
            check.due("judge(0, 0)", x.judge(0, 0), MISSING);
            for (int l = 0; l <= 3; l++) {
                check.lists(x, l, 1, 1);
            }
            check.takesOnly(x, "judge(l, 0)", 0, 3, NONE, (y, l) -> y.judge(l, 0));
            check.takesOnly(x, "judge(0, s)", 0, 5, NONE, (y, s) -> y.judge(0, s));
            x.prime(7);
            check.due("judge(0, 5)", x.judge(0, 5), MISSING);
        });
    }

    private static void images() {
        check.test("Promise 35", "returns the number of series that are not missing: from 0 to 6", x -> {
            check.due("image()", x.image(), 0);
            for (int s = 0; s <= 5; s++) {
                x.j(s, 1);
                check.due("image()", x.image(), s + 1);
            }
            x.j(5, 80);
            check.due("image()", x.image(), 6);
            x.prime(5);
            check.due("image()", x.image(), 0);
        });
        check.test("Promise 35", "saves in place of an earlier image", x -> {
            x.j(0, 3);
            check.due("image()", x.image(), 1);
            x.prime(7);
            check.due("image()", x.image(), 0);
            check.due("back()", x.back(), 0);
            check.due("count(0)", x.count(0), 7);
            check.due("of(0, 0)", x.of(0, 0), MISSING);
        });
        check.test("Promise 35", "saves all there is: six series of length 80, an equation of degree 8, eight places", x -> {
            int[] primes = {5, 7, 11, 13, 17, 19, 23, 199};
            for (int k = 0; k < 8; k++) {
                x.prime(primes[k]);
                check.reads(x, "3x8y8+1", 8);
                x.keep(k);
            }
            for (int s = 0; s <= 5; s++) {
                x.j(s, 80 - s);
            }
            check.due("image()", x.image(), 6);
            x.prime(101);
            for (int k = 0; k < 8; k++) {
                x.drop(k);
            }
            check.due("back()", x.back(), 6);
            check.due("count(0)", x.count(0), 199);
            check.due("term(8, 8)", x.term(8, 8), 3);
            for (int s = 0; s <= 5; s++) {
                check.due("of(" + s + ", 1)", x.of(s, 1), 80 - s);
                check.due("the coefficient at 0", x.coefficient(s, 0), 744 % 199);
                check.due("the last one is known", x.coefficient(s, 78 - s) >= 0 ? 1 : 0, 1);
            }
            check.due("joined(8, 8)", x.joined(8, 8), 3);
            for (int k = 0; k < 8; k++) {
                check.due("drop(" + k + ")", x.drop(k), primes[k]);
            }
        });
        check.test("Promise 36", "STATE if there is no image, until there is one, also one of nothing", x -> {
            check.due("back()", x.back(), STATE);
            x.j(0, 1);
            check.due("back()", x.back(), STATE);
            check.due("of(0, 1)", x.of(0, 1), 1);
            x.prime(101);
            check.due("image()", x.image(), 0);
            x.j(0, 1);
            check.due("back()", x.back(), 0);
            check.due("of(0, 1)", x.of(0, 1), MISSING);
        });
        check.test("Promise 36", "restores what the image has, as often as it is called; what is missing in it is missing again", x -> {
            check.tells(x, 2, -3, 1, 2);
            check.due("image()", x.image(), 1);
            for (int times = 0; times < 3; times++) {
                x.prime(199);
                x.j(0, 5);
                x.j(2, 7);
                check.reads(x, "1x8", 8);
                check.due("keep(7)", x.keep(7), 1);
                check.due("back()", x.back(), 1);
                check.due("count(0)", x.count(0), 101);
                check.due("count(1)", x.count(1), 1);
                check.due("count(2)", x.count(2), 0);
                check.holdsSeries(x, 2, -3, 1, 2);
                check.due("equation(0)", x.equation(0), MISSING);
                check.due("drop(7)", x.drop(7), MISSING);
            }
        });
        check.test("Promise 36", "restores the places with the moduli that they had, also where there is another one now", x -> {
            x.prime(5);
            check.reads(x, "3", 1);
            check.due("keep(0)", x.keep(0), 1);
            check.due("image()", x.image(), 0);
            x.prime(199);
            check.reads(x, "150", 1);
            check.due("keep(0)", x.keep(0), 1);
            check.due("keep(7)", x.keep(7), STATE);
            check.due("back()", x.back(), 0);
            check.due("whole()", x.whole(), 5);
            check.due("joined(0, 0)", x.joined(0, 0), -2);
            check.due("keep(7)", x.keep(7), STATE);
            check.due("drop(0)", x.drop(0), 5);
        });
        check.test("Promise 36", "restores the equation, and with it its neighbors, distances and counts", x -> {
            check.reads(x, "1y1+100x1+100", 1);
            check.due("image()", x.image(), 0);
            check.reads(x, "1y2", 2);
            check.due("neighbour(5, 0)", x.neighbour(5, 0), 0);
            check.due("values(3)", x.values(3), 2);
            check.due("back()", x.back(), 0);
            check.due("neighbour(5, 0)", x.neighbour(5, 0), 6);
            check.due("values(3)", x.values(3), 1);
            check.due("far(0, 100)", x.far(0, 100), 100);
        });
        check.test("Promise 36", "what is done after back does not change the image, nor what is done after image", x -> {
            x.j(0, 3);
            check.reads(x, "5x1", 1);
            x.keep(0);
            check.due("image()", x.image(), 1);
            for (int times = 0; times < 2; times++) {
                x.stretch(0, 9, 0);
                check.reads(x, "6x2", 2);
                check.due("keep(0)", x.keep(0), 1);
                check.due("back()", x.back(), 1);
                check.due("of(0, 1)", x.of(0, 1), 3);
                check.due("term(1, 0)", x.term(1, 0), 5);
                check.due("joined(1, 0)", x.joined(1, 0), 5);
            }
        });
    }

    private static void counts() {
        check.test("Promise 37", "what: BAD if it is not valid, 0 to 4 are",
            x -> check.takesOnly(x, "count(what)", 0, 4, BAD, (y, what) -> y.count(what)));
        check.test("Promise 37", "0 the modulus: 101 at first, 5 to 199", x -> {
            check.due("count(0)", x.count(0), 101);
            x.prime(5);
            check.due("count(0)", x.count(0), 5);
            x.prime(199);
            check.due("count(0)", x.count(0), 199);
        });
        check.test("Promise 37", "1 series that are not missing: from 0 to 6, set again is not counted twice", x -> {
            for (int s = 5; s >= 0; s--) {
                check.due("count(1)", x.count(1), 5 - s);
                x.j(s, 1);
                x.j(s, 2);
            }
            check.due("count(1)", x.count(1), 6);
            x.prime(101);
            check.due("count(1)", x.count(1), 0);
        });
        check.test("Promise 37", "2 kept polynomials: from 0 to 8", x -> {
            int[] primes = {5, 7, 11, 13, 17, 19, 23, 29};
            for (int k = 0; k < 8; k++) {
                check.due("count(2)", x.count(2), k);
                x.prime(primes[k]);
                check.reads(x, "1", 1);
                x.keep(k);
            }
            check.due("count(2)", x.count(2), 8);
            x.drop(0);
            check.due("count(2)", x.count(2), 7);
        });
        check.test("Promise 37", "3 bytes on the tape: from 0 to 100, and 0 again", x -> {
            for (int t = 0; t < 100; t++) {
                check.due("count(3)", x.count(3), t);
                x.feed('1');
            }
            check.due("count(3)", x.count(3), 100);
            x.feed('1');
            check.due("count(3)", x.count(3), 100);
            x.deeds();
            check.due("count(3)", x.count(3), 0);
        });
        check.test("Promise 37", "4 bytes on the paper: 0 at first, then the length of the last text", x -> {
            check.due("count(4)", x.count(4), 0);
            check.reads(x, "100x8y8+99", 8);
            check.due("count(4)", x.count(4), 0);
            check.due("write()", x.write(), 10);
            check.due("count(4)", x.count(4), 10);
            check.reads(x, "0", 1);
            check.due("write()", x.write(), 1);
            check.due("count(4)", x.count(4), 1);
        });
    }
}
