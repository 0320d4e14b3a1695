/**
 * A test for each sentence of the paragraph Details that has none beside the sentence which it
 * explains: the others stand in the tests named after series, equations, kept polynomials and texts.
 */
public final class DetailsTest {
    private static final int STATE = -3, NOT = -5, MISSING = -11;
    private static final long NO = Long.MIN_VALUE;
    private static final Check check = new Check("DetailsTest");

    public static void main(String[] args) {
        series();
        vanishing();
        neighbours();
        degenerate();
        commands();
        modulus();
        image();
        check.end();
    }

    private static void series() {
        check.test("Details", "stretching gives zeros behind the last old coefficient, too", x -> {
            check.tells(x, 0, 1, 7);
            for (int m = 1; m <= 9; m++) {
                check.due("stretch(0, " + m + ", 1)", x.stretch(0, m, 1), m);
                check.holdsSeries(x, 1, m, Check.headed(7, m));
            }
        });
        check.test("Details", "stretching gives zeros behind the last old coefficient, too: up to the length 80", x -> {
            check.tells(x, 0, 0, Check.filled(7, 20));
            check.due("stretch(0, 4, 1)", x.stretch(0, 4, 1), 80);
            check.due("coefficient(1, 76)", x.coefficient(1, 76), 7);
            for (int e = 77; e <= 79; e++) {
                check.due("coefficient(1, " + e + ")", x.coefficient(1, e), 0);
            }
        });
        check.test("Details", "negative numbers of lists become numbers from 0 to P - 1", x -> {
            check.tells(x, 0, 0, -1, -100, -101, -102, -201, -202);
            check.holdsSeries(x, 0, 0, 100, 1, 0, 100, 1, 0);
            check.due("the list keeps them", x.get(3, 0), -1);
        });
        check.test("Details", "the first coefficients of a series can be 0, and it still starts there", x -> {
            check.tells(x, 0, -2, 0, 0, 5);
            check.holdsSeries(x, 0, -2, 0, 0, 5);
            check.tells(x, 1, -2, 1, 2, 3);
            check.tells(x, 2, -2, 100, 99, 3);
            x.sum(1, 2, 3);
            check.holdsSeries(x, 3, -2, 0, 0, 6);
            x.times(0, 0, 3);
            check.holdsSeries(x, 3, -4, 0, 0, 0);
            x.stretch(0, 2, 3);
            check.holdsSeries(x, 3, -4, 0, 0, 0, 0, 5, 0);
            x.power(0, 1, 3);
            check.holdsSeries(x, 3, -2, 0, 0, 5);
            check.due("over(0, 3)", x.over(0, 3), STATE);
        });
        check.test("Details", "the first coefficients of a series can be 0: its products in vanishing start as if they were not", x -> {
            // X = 0 q^-1 + 1: the range is that of the start -1, so the coefficient at 0 counts from the length 3 on.
            check.tells(x, 0, -1, 0, 1);
            check.reads(x, "1", 1);
            check.due("vanishes(0, 0)", x.vanishes(0, 0), 1);
            check.tells(x, 0, -1, 0, 1, 0);
            check.due("vanishes(0, 0)", x.vanishes(0, 0), 0);
        });
    }

    private static void vanishing() {
        check.test("Details", "in vanishing, each product has the lower of both lengths", x -> {
            check.tells(x, 0, 0, 0, 0, 1);
            check.tells(x, 1, 0, 0, 0);
            check.reads(x, "1x1", 1);
            check.due("the lower length is 2", x.vanishes(0, 1), 1);
            check.tells(x, 1, 0, 0, 0, 0);
            check.due("the lower length is 3", x.vanishes(0, 1), 0);
            check.reads(x, "1y1", 1);
            check.due("the lower length is 3", x.vanishes(1, 0), 0);
            check.tells(x, 1, 0, 0, 0);
            check.due("the lower length is 2", x.vanishes(1, 0), 1);
        });
        check.test("Details", "in vanishing, all terms count, also those with the coefficient 0: by way of the degree", x -> {
            check.tells(x, 0, -1, 1, 0, 0, 0);
            check.reads(x, "1", 1);
            check.due("degree 1", x.vanishes(0, 0), 0);
            check.reads(x, "1+0x2", 2);
            check.due("degree 2", x.vanishes(0, 0), 1);
            check.reads(x, "1+0x1", 1);
            check.due("degree 1", x.vanishes(0, 0), 0);
        });
    }

    private static void neighbours() {
        check.test("Details", "neighbors are listed, and counted, as often as they are neighbors", x -> {
            // (y - 5)^2 (y - 7)
            check.reads(x, "1y3+84y2+95y1+27", 3);
            int[] due = {5, 5, 7};
            check.due("neighbour(0, -1)", x.neighbour(0, -1), 3);
            for (int k = 0; k < 3; k++) {
                check.due("neighbour(0, " + k + ")", x.neighbour(0, k), due[k]);
            }
            check.due("neighbour(0, 3)", x.neighbour(0, 3), NOT);
            check.due("values(3)", x.values(3), 3);
            check.due("values, not neighbors, are counted that are their own", x.values(0), 2);
            check.due("values, not neighbors, are counted that can be reached", x.reach(0), 3);
        });
    }

    private static void degenerate() {
        check.test("Details", "a degenerate value is no neighbor of itself", x -> {
            check.reads(x, "1x1y1+100x2", 2);
            check.due("values(0): all but the degenerate 0", x.values(0), 100);
            check.due("values(1)", x.values(1), 1);
            check.due("values(2)", x.values(2), 0);
            check.due("values(3)", x.values(3), 1);
            check.due("neighbour(0, -1)", x.neighbour(0, -1), STATE);
        });
        check.test("Details", "a degenerate value's distance to itself is 0, and it reaches itself alone", x -> {
            check.reads(x, "1x1y1", 1);
            check.due("far(0, 0)", x.far(0, 0), 0);
            check.due("reach(0)", x.reach(0), 1);
            for (int w : new int[] {1, 50, 100}) {
                check.due("far(0, " + w + ")", x.far(0, w), NOT);
            }
            check.due("others reach it", x.far(9, 0), 1);
            check.due("others reach it, and nothing through it", x.reach(9), 2);
        });
        check.test("Details", "a path leads to a degenerate value, and not beyond it", x -> {
            // (x - 3)(y - x - 1): 1, 2, 3, and no further
            check.reads(x, "1x1y1+100x2+98y1+2x1+3", 2);
            check.due("neighbour(3, 0)", x.neighbour(3, 0), STATE);
            check.due("far(1, 3)", x.far(1, 3), 2);
            check.due("far(1, 4)", x.far(1, 4), NOT);
            check.due("reach(1)", x.reach(1), 3);
            check.due("reach(4)", x.reach(4), 101);
            check.due("values(2): a degenerate value is not one without neighbors", x.values(2), 0);
        });
    }

    private static void commands() {
        check.test("Details", "a command that reports an error has no effect, and the others are carried out", x -> {
            check.tells(x, 0, 60, 1, 2);
            check.runs(x, "times 0 0 1;j 2 81;sum 0 3 0;stretch 0 2 0;power 0 2 0;over 0 4", 1);
            check.holdsSeries(x, 0, 60, 1, 2);
            check.due("of(1, 0)", x.of(1, 0), MISSING);
            check.due("of(2, 0)", x.of(2, 0), MISSING);
            check.holdsSeries(x, 4, -60, 1, 99);
        });
        check.test("Details", "a command that reports an error, NOT included, has no effect", x -> {
            check.tells(x, 0, 1, 1, 0, 0);
            check.reads(x, "8x8", 8);
            check.runs(x, "find 0 0 1 1;keep 2", 1);
            check.due("equation(0)", x.equation(0), 8);
            check.due("joined(8, 0)", x.joined(8, 0), 8);
        });
        check.test("Details", "the others are carried out: those ahead of the error and those behind it", x -> {
            check.runs(x, "j 0 2;prime 100;j 1 3;keep 0;over 5 5;j 2 4", 3);
            check.due("of(0, 1)", x.of(0, 1), 2);
            check.due("of(1, 1)", x.of(1, 1), 3);
            check.due("of(2, 1)", x.of(2, 1), 4);
            check.due("count(0)", x.count(0), 101);
        });
    }

    private static void modulus() {
        check.test("Details", "setting the modulus makes series and equation missing even if it stays the same", x -> {
            check.tellAll(x);
            check.reads(x, "1x1", 1);
            check.due("prime(101)", x.prime(101), 101);
            check.due("count(1)", x.count(1), 0);
            for (int s = 0; s <= 5; s++) {
                check.due("of(" + s + ", 1)", x.of(s, 1), MISSING);
            }
            check.due("equation(0)", x.equation(0), MISSING);
            check.due("write()", x.write(), MISSING);
        });
        check.test("Details", "a modulus that is refused makes nothing missing", x -> {
            check.tellAll(x);
            check.reads(x, "1x1", 1);
            x.prime(100);
            check.due("count(1)", x.count(1), 6);
            check.due("equation(0)", x.equation(0), 1);
        });
    }

    private static void image() {
        check.test("Details", "what is saved does not contain the tape", x -> {
            check.feedAll(x, "12");
            check.due("image()", x.image(), 0);
            check.feedAll(x, "x3");
            check.due("back()", x.back(), 0);
            check.due("count(3)", x.count(3), 4);
            check.due("read()", x.read(), 3);
            check.due("term(3, 0)", x.term(3, 0), 12);
            check.due("back()", x.back(), 0);
            check.due("count(3)", x.count(3), 0);
        });
        check.test("Details", "what is saved does not contain the text that was written", x -> {
            check.reads(x, "12x1", 1);
            check.writes(x, "12x1");
            check.due("image()", x.image(), 0);
            check.reads(x, "7", 1);
            check.writes(x, "7");
            check.due("back()", x.back(), 0);
            check.due("count(4)", x.count(4), 1);
            check.due("paper(0)", x.paper(0), '7');
            check.writes(x, "12x1");
        });
        check.test("Details", "what is saved does not contain the lists", x -> {
            check.lists(x, 0, 1, 2);
            check.due("image()", x.image(), 0);
            check.lists(x, 0, 3);
            check.lists(x, 1, 4);
            check.due("back()", x.back(), 0);
            check.due("get(0, 0)", x.get(0, 0), 3);
            check.due("get(0, 1)", x.get(0, 1), NO);
            check.due("get(1, 0)", x.get(1, 0), 4);
        });
    }
}
