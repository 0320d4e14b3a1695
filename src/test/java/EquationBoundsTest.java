/**
 * A test for each sentence about polynomials, finding and the graph that names a boundary:
 * Polynomials, Vanishing, Finding, The equation, promises 12 to 20.
 */
public final class EquationBoundsTest {
    private static final int NONE = -1, BAD = -2, STATE = -3, NOT = -5, MISSING = -11;
    private static final int LEAST = Check.LEAST_INT, GREATEST = Check.GREATEST_INT;
    private static final Check check = new Check("EquationBoundsTest");

    public static void main(String[] args) {
        degrees();
        order();
        symmetry();
        vanishing();
        vanishingLengths();
        finding();
        freeTerms();
        findArguments();
        newEquations();
        properties();
        terms();
        values();
        neighbours();
        degenerate();
        manyNeighbours();
        distances();
        reaching();
        counts();
        check.end();
    }

    /** Sets series 0 to q^start, of length n. */
    private static void monomial(CountedEquations x, int start, int n) {
        check.tells(x, 0, start, Check.headed(1, n));
    }

    /** The equation that is read vanishes on series 0, twice, if and only if the length of q^start is at most n. */
    private static void vanishesUpTo(CountedEquations x, String text, int start, int n) {
        check.feedAll(x, text);
        check.holds("read() of " + text, x.read() > 0);
        if (n > 0) {
            monomial(x, start, n);
            check.due(text + " on q^" + start + ", length " + n, x.vanishes(0, 0), 1);
        }
        monomial(x, start, n + 1);
        check.due(text + " on q^" + start + ", length " + (n + 1), x.vanishes(0, 0), 0);
    }

    private static void degrees() {
        check.test("Polynomials", "a polynomial has a degree from 1 to 8: by find", x -> {
            x.j(0, 3);
            for (int d = 1; d <= 8; d++) {
                check.holds("find(0, 0, " + d + ", 0)", x.find(0, 0, d, 0) > 0);
                check.due("equation(0)", x.equation(0), d);
            }
            check.refuses(x, "find(0, 0, d, 0)", 1, 8, BAD, (y, d) -> y.find(0, 0, d, 0));
            check.due("equation(0)", x.equation(0), 8);
        });
        check.test("Polynomials", "a polynomial has a degree from 1 to 8: by read", x -> {
            for (int d = 1; d <= 8; d++) {
                check.reads(x, "1x" + d, d);
                check.reads(x, "1y" + d, d);
            }
            check.reads(x, "1x0", -102);
            check.reads(x, "1x9", -102);
            check.due("equation(0)", x.equation(0), 8);
        });
        check.test("Polynomials", "a coefficient for each term with i and k from 0 to d, and for no other one", x -> {
            for (int d = 1; d <= 8; d++) {
                check.reads(x, "2+3x" + d + "+4y" + d + "+5x" + d + "y" + d, d);
                check.due("term(0, 0)", x.term(0, 0), 2);
                check.due("term(d, 0)", x.term(d, 0), 3);
                check.due("term(0, d)", x.term(0, d), 4);
                check.due("term(d, d)", x.term(d, d), 5);
                for (int i = 0; i <= d + 1; i++) {
                    check.due("term(" + i + ", d + 1)", x.term(i, d + 1), NONE);
                    check.due("term(d + 1, " + i + ")", x.term(d + 1, i), NONE);
                }
            }
        });
    }

    private static void order() {
        check.test("Polynomials", "terms are ordered by i, and for equal i by k", x -> {
            // Each text begins with the term that has to be the greatest one, behind it the lower ones.
            String[] texts = {"1x8y8", "1x8y7+1x7y8", "1x8+1x7y8", "1x1+1y8", "1x1y1+1x1", "1y1+1", "1x2+1x1y8", "1y8+1y7"};
            int[] leading = {88, 87, 80, 10, 11, 1, 20, 8};
            for (int t = 0; t < texts.length; t++) {
                check.feedAll(x, texts[t]);
                x.read();
                check.due("the leading term of " + texts[t], x.equation(1), leading[t]);
                check.writes(x, texts[t]);
            }
        });
        check.test("Polynomials", "the leading term is the greatest term whose coefficient is not 0, from 0 to 88", x -> {
            check.reads(x, "0x8y8+7", 8);
            check.due("equation(1)", x.equation(1), 0);
            check.reads(x, "101x8y8+1x8y7", 8);
            check.due("equation(1)", x.equation(1), 87);
            check.reads(x, "100x8y8+1x8y8+1y1", 8);
            check.due("equation(1)", x.equation(1), 1);
            check.reads(x, "100x8y8", 8);
            check.due("equation(1)", x.equation(1), 88);
        });
        check.test("Promise 13", "NOT if what is 1 and all coefficients are 0", x -> {
            for (String text : new String[] {"0", "0x8y8", "101", "100x1+1x1"}) {
                check.feedAll(x, text);
                x.read();
                check.due("equation(1) of " + text, x.equation(1), NOT);
                check.due("equation(3) of " + text, x.equation(3), 0);
            }
            check.reads(x, "1", 1);
            check.due("equation(1) of 1", x.equation(1), 0);
        });
    }

    private static void symmetry() {
        check.test("Polynomials", "a polynomial is symmetric if the coefficients of x^i y^k and x^k y^i are always equal", x -> {
            String[] yes = {"0", "5", "1x1y1", "1x1+1y1", "3x8+3y8", "4x8y7+4x7y8", "2x8y8+9", "100x2y1+201x1y2", "50x1+50x1+100y1"};
            for (String text : yes) {
                check.feedAll(x, text);
                x.read();
                check.due("equation(2) of " + text, x.equation(2), 1);
            }
        });
        check.test("Polynomials", "a polynomial is not symmetric if one pair differs, the first one or the last one", x -> {
            String[] no = {"1x1", "1y1", "2x1+1y1", "1x8", "1y8", "1x8y7", "1x7y8", "1x8y7+2x7y8", "1x8y1+1y8", "1x2+1y3"};
            for (String text : no) {
                check.feedAll(x, text);
                x.read();
                check.due("equation(2) of " + text, x.equation(2), 0);
            }
        });
    }

    private static void vanishing() {
        check.test("Vanishing", "only coefficients 0 to the lowest last exponent: that one counts, the next one doesn't", x -> {
            // With q the products begin at 0, so that the last exponent that counts is n - 1.
            vanishesUpTo(x, "1", 1, 0);
            vanishesUpTo(x, "1x1", 1, 1);
            vanishesUpTo(x, "1x1y1", 1, 2);
            vanishesUpTo(x, "1x2", 1, 2);
            vanishesUpTo(x, "1x2y2", 1, 4);
            vanishesUpTo(x, "1x8y8", 1, 16);
        });
        check.test("Vanishing", "only coefficients 0 from the lowest start on: that one counts", x -> {
            vanishesUpTo(x, "1x1y1", -1, 0);
            vanishesUpTo(x, "1x1", -1, 1);
            vanishesUpTo(x, "1x8y8", -1, 0);
            vanishesUpTo(x, "1x8y7", -1, 1);
            vanishesUpTo(x, "1x8y8", -99, 0);
        });
        check.test("Vanishing", "all terms count for the lowest start, also those with the coefficient 0", x -> {
            vanishesUpTo(x, "1", -1, 2);
            vanishesUpTo(x, "1+0x2", -1, 4);
            vanishesUpTo(x, "1+0y8", -1, 16);
            vanishesUpTo(x, "1x1+0x2", -3, 9);
        });
        check.test("Vanishing", "the lowest start of two series with different signs", x -> {
            // X = q^3 and Y = q^-2: the lowest product is y^d, at -2d.
            check.tells(x, 0, 3, Check.headed(1, 5));
            check.tells(x, 1, -2, Check.headed(1, 5));
            for (int d = 1; d <= 8; d++) {
                check.reads(x, "1y" + d, d);
                check.due("vanishes(0, 1)", x.vanishes(0, 1), 0);
                check.due("vanishes(1, 0)", x.vanishes(1, 0), 3 * d > -2 * d + 4 ? 1 : 0);
                check.reads(x, "1+0y" + d, d);
                check.due("vanishes(0, 1)", x.vanishes(0, 1), 2 * d > 4 ? 1 : 0);
            }
        });
        check.test("Vanishing", "the products have unlimited starts, far beyond -99 and 99", x -> {
            monomial(x, 99, 80);
            check.tells(x, 1, -99, Check.headed(1, 80));
            String[] texts = {"1x8y8", "1", "1x1", "1y8", "1y7"};
            int[][] due = {{1, 0, 1}, {0, 1, 1}, {1, 1, 1}, {1, 1, 0}, {1, 1, 0}};
            for (int t = 0; t < texts.length; t++) {
                check.feedAll(x, texts[t]);
                x.read();
                check.due(texts[t] + " on q^99", x.vanishes(0, 0), due[t][0]);
                check.due(texts[t] + " on q^-99", x.vanishes(1, 1), due[t][1]);
                check.due(texts[t] + " on q^99 and q^-99", x.vanishes(0, 1), due[t][2]);
            }
        });
    }

    private static void vanishingLengths() {
        check.test("Vanishing", "each product has the lower of both lengths, also the powers of the longer series", x -> {
            check.tells(x, 0, 1, Check.headed(1, 80));
            check.tells(x, 1, 0, 1);
            check.tells(x, 2, 0, 1, 0);
            for (String text : new String[] {"1x1", "1y1"}) {
                check.reads(x, text, 1);
                boolean first = text.equals("1x1");
                check.due(text + " on X and Y", x.vanishes(first ? 0 : 1, first ? 1 : 0), 1);
                check.due(text + " on X and a longer Y", x.vanishes(first ? 0 : 2, first ? 2 : 0), 0);
            }
        });
        check.test("Vanishing", "the last coefficient of the length 80 counts", x -> {
            int[] numbers = new int[80];
            numbers[79] = 1;
            check.tells(x, 0, 0, numbers);
            check.tells(x, 1, 0, Check.filled(0, 80));
            check.reads(x, "1x1", 1);
            check.due("vanishes(0, 0)", x.vanishes(0, 0), 0);
            check.due("vanishes(1, 1)", x.vanishes(1, 1), 1);
            check.due("vanishes(0, 1)", x.vanishes(0, 1), 0);
            check.due("vanishes(1, 0)", x.vanishes(1, 0), 1);
        });
        check.test("Vanishing", "the polynomial 0 vanishes on all series; a sum that wraps around to 0 does, too", x -> {
            monomial(x, -5, 80);
            check.reads(x, "0x3", 3);
            check.due("vanishes(0, 0)", x.vanishes(0, 0), 1);
            check.reads(x, "1x1+100y1", 1);
            check.due("vanishes(0, 0)", x.vanishes(0, 0), 1);
            check.reads(x, "1x1+99y1", 1);
            check.due("vanishes(0, 0)", x.vanishes(0, 0), 0);
            check.tells(x, 1, -5, Check.headed(100, 80));
            check.reads(x, "1x1+1y1", 1);
            check.due("vanishes(0, 1)", x.vanishes(0, 1), 1);
        });
        check.test("Promise 16", "a: the series X, b: the series Y; NONE if one of both series does not exist", x -> {
            check.tellAll(x);
            check.reads(x, "1x1+100y1", 1);
            check.takesOnly(x, "vanishes(s, 0)", 0, 5, NONE, (y, s) -> y.vanishes(s, 0));
            check.takesOnly(x, "vanishes(0, s)", 0, 5, NONE, (y, s) -> y.vanishes(0, s));
        });
        check.test("Promise 16", "MISSING if the equation or a series is missing", x -> {
            check.tells(x, 0, 0, 1);
            check.due("vanishes(0, 0) without an equation", x.vanishes(0, 0), MISSING);
            check.reads(x, "1", 1);
            check.due("vanishes(0, 5)", x.vanishes(0, 5), MISSING);
            check.due("vanishes(5, 0)", x.vanishes(5, 0), MISSING);
            check.due("vanishes(0, 0)", x.vanishes(0, 0), 0);
        });
    }

    private static void found(CountedEquations x, int d, int way, int free, String written) {
        check.due("find(0, 0, " + d + ", " + way + ")", x.find(0, 0, d, way), free);
        check.writes(x, written);
    }

    private static void finding() {
        check.test("Finding", "there is exactly one result unless there is none at all: the last length with one, the first without", x -> {
            // On X = Y = q, symmetric: 1, x + y and xy become 1, 2q and q^2.
            monomial(x, 1, 2);
            found(x, 1, 1, 1, "1x1y1");
            monomial(x, 1, 3);
            check.due("find(0, 0, 1, 1)", x.find(0, 0, 1, 1), NOT);
            check.writes(x, "1x1y1");
        });
        check.test("Finding", "all polynomials other than 0: the polynomial 0 is no result", x -> {
            monomial(x, 1, 80);
            check.tells(x, 1, 2, Check.headed(1, 80));
            check.due("find(0, 1, 1, 0)", x.find(0, 1, 1, 0), NOT);
            check.due("find(0, 1, 2, 1)", x.find(0, 1, 2, 1), NOT);
            check.due("equation(0)", x.equation(0), MISSING);
        });
        check.test("Finding", "with way 1 only symmetric ones: a lower one that isn't symmetric is no result", x -> {
            monomial(x, 1, 80);
            check.tells(x, 1, 2, Check.headed(1, 80));
            check.due("find(0, 1, 2, 0)", x.find(0, 1, 2, 0), 2);
            check.writes(x, "1x2+100y1");
            check.due("find(0, 1, 2, 1)", x.find(0, 1, 2, 1), NOT);
            check.due("find(0, 1, 3, 1)", x.find(0, 1, 3, 1), 1);
            check.writes(x, "1x3+100x2y2+100x1y1+1y3");
        });
        check.test("Finding", "the result has the lowest leading term, and coefficient 1 there", x -> {
            check.tells(x, 0, 0, 3, 0, 0);
            found(x, 1, 0, 3, "1y1+98");
            found(x, 8, 0, 80, "1y1+98");
            check.tells(x, 0, 0, 7, 5);
            found(x, 1, 0, 2, "1x1+100y1");
            monomial(x, 1, 1);
            found(x, 1, 0, 3, "1y1");
            check.tells(x, 0, 0, 100, 100);
            check.tells(x, 1, 0, 2, 2);
            check.due("find(0, 1, 1, 0)", x.find(0, 1, 1, 0), 2);
            check.writes(x, "1x1+51y1");
        });
        check.test("Finding", "the lowest and the greatest leading term: 1, and x^8 y^8", x -> {
            check.tells(x, 0, -99, 0);
            found(x, 8, 0, 81, "1");
            // 80 coefficients without a rule leave the one of the last term free.
            scattered(x);
            check.due("find(0, 1, 8, 0)", x.find(0, 1, 8, 0), 1);
            check.due("equation(1)", x.equation(1), 88);
            check.due("term(8, 8)", x.term(8, 8), 1);
            check.due("vanishes(0, 1)", x.vanishes(0, 1), 1);
        });
    }

    /** Two series of length 80 without a rule, so that no polynomial of degree 8 but one vanishes on them. */
    private static void scattered(CountedEquations x) {
        x.prime(199);
        long number = 1;
        for (int s = 0; s < 2; s++) {
            int[] numbers = new int[80];
            for (int t = 0; t < 80; t++) {
                number = number * 6364136223846793005L + 1442695040888963407L;
                numbers[t] = (int) (number >>> 40) % 199;
            }
            check.tells(x, s, 0, numbers);
        }
    }

    private static void freeTerms() {
        check.test("Finding", "the number of free terms is at most that of all terms: 4 to 81, and 3 to 45 with way 1", x -> {
            check.tells(x, 0, -99, 0);
            for (int d = 1; d <= 8; d++) {
                check.due("find(0, 0, " + d + ", 0)", x.find(0, 0, d, 0), (d + 1) * (d + 1));
                check.due("find(0, 0, " + d + ", 1)", x.find(0, 0, d, 1), (d + 1) * (d + 2) / 2);
            }
        });
        check.test("Finding", "the number of free terms: one less for each coefficient that counts", x -> {
            // On X = Y = q of degree 2 the terms become q^0 to q^4.
            for (int n = 1; n <= 7; n++) {
                monomial(x, 1, n);
                check.due("find(0, 0, 2, 0)", x.find(0, 0, 2, 0), 9 - Math.min(n, 5));
                check.due("find(0, 0, 2, 1)", x.find(0, 0, 2, 1), 6 - Math.min(n, 5));
            }
        });
        check.test("Finding", "the number of free terms of series without a rule: 1 of 81 for the length 80, 2 for 79", x -> {
            scattered(x);
            check.due("find(0, 1, 8, 0)", x.find(0, 1, 8, 0), 1);
            check.due("find(0, 1, 7, 0)", x.find(0, 1, 7, 0), NOT);
            check.due("list(0, 79)", x.list(0, 79), 1);
            check.due("lay(0, 0)", x.lay(0, 0), 79);
            check.due("tell(0, 0, 0)", x.tell(0, 0, 0), 79);
            check.due("find(0, 1, 8, 0)", x.find(0, 1, 8, 0), 2);
            check.due("equation(1)", x.equation(1), 87);
        });
        check.test("Details", "the number of free terms is that of all polynomials that are considered, symmetric ones with way 1", x -> {
            monomial(x, 1, 1);
            check.due("find(0, 0, 1, 0)", x.find(0, 0, 1, 0), 3);
            check.due("find(0, 0, 1, 1)", x.find(0, 0, 1, 1), 2);
        });
        check.test("Details", "the leading term of a symmetric polynomial is the greater one of both mirrored ones", x -> {
            monomial(x, 1, 1);
            check.due("find(0, 0, 1, 1)", x.find(0, 0, 1, 1), 2);
            check.due("equation(1)", x.equation(1), 10);
            check.writes(x, "1x1+1y1");
            // On X = q and Y = 0: x + y and x^2 + y^2 become q and q^2, so xy is the lowest one.
            monomial(x, 1, 80);
            check.tells(x, 1, 0, Check.filled(0, 80));
            check.due("find(0, 1, 2, 1)", x.find(0, 1, 2, 1), 3);
            check.writes(x, "1x1y1");
        });
    }

    private static void findArguments() {
        check.test("Promise 12", "a: the series X, b: the series Y; NONE if one of both series does not exist", x -> {
            check.tellAll(x);
            check.takesOnly(x, "find(s, 0, 1, 0)", 0, 5, NONE, (y, s) -> y.find(s, 0, 1, 0));
            check.takesOnly(x, "find(0, s, 1, 0)", 0, 5, NONE, (y, s) -> y.find(0, s, 1, 0));
        });
        check.test("Promise 12", "d: the degree, 1 to 8; BAD if d is out of range", x -> {
            check.tellAll(x);
            check.takesOnly(x, "find(0, 0, d, 0)", 1, 8, BAD, (y, d) -> y.find(0, 0, d, 0));
            check.takesOnly(x, "find(0, 0, d, 1)", 1, 8, BAD, (y, d) -> y.find(0, 0, d, 1));
        });
        check.test("Promise 12", "way: 0 or 1; BAD if way is out of range", x -> {
            check.tellAll(x);
            check.takesOnly(x, "find(0, 0, 2, way)", 0, 1, BAD, (y, way) -> y.find(0, 0, 2, way));
        });
        check.test("Promise 12", "MISSING if one of both series is missing, the first or the second", x -> {
            check.tells(x, 0, 0, 1);
            for (int s = 1; s <= 5; s++) {
                check.due("find(" + s + ", 0, 1, 0)", x.find(s, 0, 1, 0), MISSING);
                check.due("find(0, " + s + ", 1, 0)", x.find(0, s, 1, 0), MISSING);
            }
            check.due("find(0, 0, 1, 0)", x.find(0, 0, 1, 0), 3);
        });
        check.test("Promise 12", "NOT leaves the equation, what is found takes its place with its degree", x -> {
            check.reads(x, "5x8y8", 8);
            monomial(x, 1, 3);
            check.due("find(0, 0, 1, 1)", x.find(0, 0, 1, 1), NOT);
            check.due("term(8, 8)", x.term(8, 8), 5);
            check.due("find(0, 0, 1, 0)", x.find(0, 0, 1, 0), 1);
            check.due("equation(0)", x.equation(0), 1);
            check.due("equation(3)", x.equation(3), 2);
            check.due("term(8, 8)", x.term(8, 8), NONE);
        });
    }

    private static void newEquations() {
        check.test("Promise 12", "what is found becomes the equation, and its neighbors are those that are asked for", x -> {
            check.reads(x, "1y1+100x1+100", 1);
            check.due("neighbour(5, 0)", x.neighbour(5, 0), 6);
            check.due("reach(5)", x.reach(5), 101);
            check.tells(x, 0, 0, 3, 0);
            check.due("find(0, 0, 1, 0)", x.find(0, 0, 1, 0), 3);
            check.due("neighbour(5, 0)", x.neighbour(5, 0), 3);
            check.due("reach(5)", x.reach(5), 2);
            check.due("values(0)", x.values(0), 1);
        });
        check.test("Promise 27", "what is read becomes the equation, and its neighbors are those that are asked for", x -> {
            check.reads(x, "1y1+100x1+100", 1);
            check.due("neighbour(5, 0)", x.neighbour(5, 0), 6);
            check.reads(x, "1x1y1", 1);
            check.due("neighbour(5, 0)", x.neighbour(5, 0), 0);
            check.due("neighbour(0, 0)", x.neighbour(0, 0), STATE);
            x.prime(5);
            check.reads(x, "1y1+4x1+4", 1);
            check.due("neighbour(4, 0)", x.neighbour(4, 0), 0);
        });
    }

    private static void properties() {
        check.test("Promise 13", "what: 0 to 3; NONE if what is not valid", x -> {
            check.reads(x, "1", 1);
            check.takesOnly(x, "equation(what)", 0, 3, NONE, (y, what) -> y.equation(what));
        });
        check.test("Promise 13", "MISSING for each property", x -> {
            for (int what = 0; what <= 3; what++) {
                check.due("equation(" + what + ")", x.equation(what), MISSING);
            }
        });
        check.test("Promise 13", "3 the number of coefficients that are not 0: from 0 to all 81", x -> {
            check.reads(x, "0", 1);
            check.due("equation(3)", x.equation(3), 0);
            check.reads(x, "1x8y8", 8);
            check.due("equation(3)", x.equation(3), 1);
            check.reads(x, "1+1x1+1y1+1x1y1", 1);
            check.due("equation(3)", x.equation(3), 4);
            scattered(x);
            check.due("find(0, 1, 8, 0)", x.find(0, 1, 8, 0), 1);
            for (int i = 0; i <= 8; i++) {
                for (int k = 0; k <= 8; k++) {
                    check.holds("term(" + i + ", " + k + ") is not 0", x.term(i, k) > 0);
                }
            }
            check.due("equation(3)", x.equation(3), 81);
        });
        check.test("Promise 13", "0 the degree: it need not be the leading term's", x -> {
            check.reads(x, "3x1+0y8", 8);
            check.due("equation(0)", x.equation(0), 8);
            check.due("equation(1)", x.equation(1), 10);
        });
    }

    private static void terms() {
        check.test("Promise 14", "NONE if i or k is not from 0 to 8, also when the equation is missing", x -> {
            check.refuses(x, "term(i, 0)", 0, 8, NONE, (y, i) -> y.term(i, 0));
            check.refuses(x, "term(0, k)", 0, 8, NONE, (y, k) -> y.term(0, k));
            check.due("term(9, 9)", x.term(9, 9), NONE);
            check.reads(x, "1x8y8", 8);
            check.takesOnly(x, "term(i, 8)", 0, 8, NONE, (y, i) -> y.term(i, 8));
            check.takesOnly(x, "term(8, k)", 0, 8, NONE, (y, k) -> y.term(8, k));
        });
        check.test("Promise 14", "MISSING, for all i and k from 0 to 8", x -> {
            for (int i = 0; i <= 8; i++) {
                check.due("term(" + i + ", 0)", x.term(i, 0), MISSING);
                check.due("term(8, " + i + ")", x.term(8, i), MISSING);
            }
        });
        check.test("Promise 14", "NONE if i or k is greater than the degree", x -> {
            check.reads(x, "6x3y3", 3);
            check.due("term(3, 3)", x.term(3, 3), 6);
            check.due("term(3, 0)", x.term(3, 0), 0);
            check.due("term(0, 3)", x.term(0, 3), 0);
            for (int i = 4; i <= 8; i++) {
                check.due("term(" + i + ", 0)", x.term(i, 0), NONE);
                check.due("term(0, " + i + ")", x.term(0, i), NONE);
            }
        });
    }

    private static void values() {
        check.test("Promise 15", "v and w: values from 0 to P - 1; BAD", x -> {
            for (int p : new int[] {5, 101, 199}) {
                x.prime(p);
                check.reads(x, "1", 1);
                for (int v : new int[] {0, p - 1}) {
                    check.due("at(" + v + ", 0)", x.at(v, 0), 1);
                    check.due("at(0, " + v + ")", x.at(0, v), 1);
                }
                check.refuses(x, "at(v, 0)", 0, p - 1, BAD, (y, v) -> y.at(v, 0));
                check.refuses(x, "at(0, w)", 0, p - 1, BAD, (y, w) -> y.at(0, w));
            }
        });
        check.test("Promise 15", "the value wraps around: at the greatest values, with the greatest coefficients", x -> {
            x.prime(199);
            check.reads(x, "198x8y8+198x8+198y8+198", 8);
            check.due("at(198, 198)", x.at(198, 198), 195);
            check.due("at(0, 0)", x.at(0, 0), 198);
            check.due("at(198, 0)", x.at(198, 0), 197);
            check.reads(x, "198x7y8+1x8", 8);
            check.due("at(198, 198)", x.at(198, 198), 2);
            check.due("at(198, 1)", x.at(198, 1), 2);
            check.due("at(1, 198)", x.at(1, 198), 0);
        });
        check.test("Promise 15", "MISSING", x -> {
            check.due("at(0, 0)", x.at(0, 0), MISSING);
            check.due("at(100, 100)", x.at(100, 100), MISSING);
        });
    }

    private static void neighboursAre(CountedEquations x, int v, int... all) {
        check.due("neighbour(" + v + ", -1)", x.neighbour(v, -1), all.length);
        for (int k = 0; k < all.length; k++) {
            check.due("neighbour(" + v + ", " + k + ")", x.neighbour(v, k), all[k]);
        }
        check.due("neighbour(" + v + ", " + all.length + ")", x.neighbour(v, all.length), NOT);
    }

    private static void neighbours() {
        check.test("The equation", "the object holds one polynomial, the equation, which is missing at first", x -> {
            check.due("equation(0)", x.equation(0), MISSING);
            check.reads(x, "1x8", 8);
            check.reads(x, "1y1", 1);
            check.due("equation(0)", x.equation(0), 1);
            check.due("equation(3)", x.equation(3), 1);
            check.due("term(8, 0)", x.term(8, 0), NONE);
        });
        check.test("The equation", "values and neighbors reach from 0 to P - 1", x -> {
            for (int p : new int[] {5, 199}) {
                x.prime(p);
                check.reads(x, "1x1+1y1+1", 1);
                neighboursAre(x, 0, p - 1);
                neighboursAre(x, p - 1, 0);
            }
        });
        check.test("The equation", "neighbors are listed in ascending order, 0 first and P - 1 last", x -> {
            // y (y + 1) (y - 3)
            check.reads(x, "1y3+99y2+98y1", 3);
            neighboursAre(x, 50, 0, 3, 100);
        });
        check.test("The equation", "a value is a neighbor as often as y - w divides: once to eight times", x -> {
            for (int m = 1; m <= 8; m++) {
                check.reads(x, "1y" + m, m);
                neighboursAre(x, 7, Check.filled(0, m));
            }
        });
        check.test("The equation", "as often as y - w divides: (y - 2)^2 (y + 1)^3, and (y - 4)^8", x -> {
            x.prime(11);
            // (y^2 - 4y + 4)(y^3 + 3y^2 + 3y + 1)
            check.reads(x, "1y5+10y4+6y3+1y2+8y1+4", 5);
            neighboursAre(x, 3, 2, 2, 10, 10, 10);
            // The coefficients are those of 8 over k times (-4)^(8-k), modulo 11.
            long[] choose = {1, 8, 28, 56, 70, 56, 28, 8, 1};
            StringBuilder text = new StringBuilder();
            long power = 1;
            for (int k = 8; k >= 0; k--) {
                text.append(text.length() == 0 ? "" : "+").append(Math.floorMod(choose[k] * power, 11L)).append(k > 0 ? "y" + k : "");
                power = power * -4 % 11;
            }
            check.reads(x, text.toString(), 8);
            neighboursAre(x, 10, 4, 4, 4, 4, 4, 4, 4, 4);
        });
        check.test("The equation", "as often as y - w divides: eight great values of P = 199, each once, and each eight times", x -> {
            x.prime(199);
            int[] great = {191, 192, 193, 194, 195, 196, 197, 198};
            check.feedAll(x, product(199, great));
            check.due("read()", x.read(), 8);
            neighboursAre(x, 198, great);
            for (int w : great) {
                check.feedAll(x, product(199, Check.filled(w, 8)));
                check.due("read()", x.read(), 8);
                neighboursAre(x, 0, Check.filled(w, 8));
            }
        });
        check.test("The equation", "(y - w)^P for P = 5: y - w divides y^5 - w five times", x -> {
            x.prime(5);
            check.reads(x, "1y5+4x1", 5);
            for (int v = 0; v < 5; v++) {
                neighboursAre(x, v, Check.filled(v, 5));
            }
        });
    }

    /** The product of y - w for all roots w, as a text. */
    private static String product(int p, int... roots) {
        int[] c = {1};
        for (int w : roots) {
            int[] next = new int[c.length + 1];
            for (int k = 0; k < c.length; k++) {
                next[k + 1] = (next[k + 1] + c[k]) % p;
                next[k] = (next[k] + (p - w) * c[k]) % p;
            }
            c = next;
        }
        StringBuilder text = new StringBuilder().append(c[0]);
        for (int k = 1; k < c.length; k++) {
            text.append('+').append(c[k]).append('y').append(k);
        }
        return text.toString();
    }

    private static void degenerate() {
        check.test("The equation", "if the polynomial in y is 0, v is degenerate; one that is 0 at all values is not", x -> {
            x.prime(5);
            check.reads(x, "1x1y5+4x1y1", 5);
            check.due("neighbour(0, -1)", x.neighbour(0, -1), STATE);
            neighboursAre(x, 1, 0, 1, 2, 3, 4);
            neighboursAre(x, 4, 0, 1, 2, 3, 4);
        });
        check.test("The equation", "a constant other than 0 makes no value degenerate, 0 makes all of them", x -> {
            check.reads(x, "1", 1);
            neighboursAre(x, 0);
            neighboursAre(x, 100);
            check.reads(x, "0", 1);
            check.due("neighbour(0, -1)", x.neighbour(0, -1), STATE);
            check.due("neighbour(100, 0)", x.neighbour(100, 0), STATE);
        });
        check.test("The equation", "degenerate is the value whose coefficients are all 0: the least, the greatest, a single power of y left", x -> {
            check.reads(x, "1x1y1+1x1", 1);
            check.due("neighbour(0, 0)", x.neighbour(0, 0), STATE);
            neighboursAre(x, 1, 100);
            check.reads(x, "1x1y8+1y8", 8);
            check.due("neighbour(100, 0)", x.neighbour(100, 0), STATE);
            neighboursAre(x, 0, Check.filled(0, 8));
            // At 0 only the constant is left, at 100 only the term y.
            check.reads(x, "1x1y1+1x1+1", 1);
            neighboursAre(x, 0);
            neighboursAre(x, 100, 0);
        });
        check.test("Promise 17", "STATE if v is degenerate, for each k from -1 on", x -> {
            check.reads(x, "1x1y1", 1);
            for (int k : new int[] {-1, 0, 1, 8, GREATEST}) {
                check.due("neighbour(0, " + k + ")", x.neighbour(0, k), STATE);
            }
            check.due("neighbour(0, -2)", x.neighbour(0, -2), BAD);
        });
    }

    private static void manyNeighbours() {
        check.test("Promise 17", "v: the value; BAD if v is out of range", x -> {
            for (int p : new int[] {5, 101, 199}) {
                x.prime(p);
                check.reads(x, "1y1", 1);
                check.due("neighbour(0, 0)", x.neighbour(0, 0), 0);
                check.due("neighbour(" + (p - 1) + ", 0)", x.neighbour(p - 1, 0), 0);
                check.refuses(x, "neighbour(v, 0)", 0, p - 1, BAD, (y, v) -> y.neighbour(v, 0));
            }
        });
        check.test("Promise 17", "k: the position from 0, -1 for the number; BAD if k is less than -1", x -> {
            check.reads(x, "1y2+100", 2);
            check.due("neighbour(5, -1)", x.neighbour(5, -1), 2);
            check.due("neighbour(5, 0)", x.neighbour(5, 0), 1);
            check.due("neighbour(5, 1)", x.neighbour(5, 1), 100);
            for (int k : new int[] {-2, -3, LEAST, LEAST + 1}) {
                check.due("neighbour(5, " + k + ")", x.neighbour(5, k), BAD);
            }
        });
        check.test("Promise 17", "NOT if there is no such position: behind the last one of 0, 1 and 8 neighbors", x -> {
            String[] texts = {"7", "1y1", "1y8"};
            int[] sizes = {0, 1, 8};
            for (int t = 0; t < 3; t++) {
                check.feedAll(x, texts[t]);
                x.read();
                check.due("neighbour(5, -1)", x.neighbour(5, -1), sizes[t]);
                if (sizes[t] > 0) {
                    check.due("the last neighbor", x.neighbour(5, sizes[t] - 1), 0);
                }
                for (int k : new int[] {sizes[t], sizes[t] + 1, 9, 1000, GREATEST}) {
                    check.due("neighbour(5, " + k + ")", x.neighbour(5, k), NOT);
                }
            }
        });
        check.test("Promise 17", "MISSING", x -> {
            check.due("neighbour(0, -1)", x.neighbour(0, -1), MISSING);
            check.due("neighbour(100, 0)", x.neighbour(100, 0), MISSING);
        });
    }

    private static void distances() {
        check.test("The equation", "the distance is the least number of steps: 0, 1, and P - 1 at most", x -> {
            for (int p : new int[] {5, 199}) {
                x.prime(p);
                check.reads(x, "1y1+" + (p - 1) + "x1+" + (p - 1), 1);
                check.due("far(0, 0)", x.far(0, 0), 0);
                check.due("far(0, 1)", x.far(0, 1), 1);
                check.due("far(0, p - 1)", x.far(0, p - 1), p - 1);
                check.due("far(p - 1, 0)", x.far(p - 1, 0), 1);
                check.due("far(p - 1, p - 2)", x.far(p - 1, p - 2), p - 1);
            }
        });
        check.test("The equation", "the least number of steps, where there is a longer way, too", x -> {
            // (y - x - 1)(y - 2x)
            check.reads(x, "1y2+98x1y1+100y1+2x2+2x1", 2);
            check.due("far(1, 2)", x.far(1, 2), 1);
            check.due("far(1, 64)", x.far(1, 64), 6);
            check.due("far(3, 12)", x.far(3, 12), 2);
            check.due("far(1, 3)", x.far(1, 3), 2);
        });
        check.test("The equation", "steps lead from a value to its neighbors, not back", x -> {
            check.reads(x, "1y1+100x2", 2);
            check.due("far(10, 100)", x.far(10, 100), 1);
            check.due("far(100, 10)", x.far(100, 10), NOT);
            check.due("far(10, 1)", x.far(10, 1), 2);
            check.due("far(1, 10)", x.far(1, 10), NOT);
        });
        check.test("Promise 18", "v and w: values from 0 to P - 1; BAD", x -> {
            for (int p : new int[] {5, 101, 199}) {
                x.prime(p);
                check.reads(x, "1x1+1y1+1", 1);
                check.due("far(0, p - 1)", x.far(0, p - 1), 1);
                check.due("far(p - 1, 0)", x.far(p - 1, 0), 1);
                check.refuses(x, "far(v, 0)", 0, p - 1, BAD, (y, v) -> y.far(v, 0));
                check.refuses(x, "far(0, w)", 0, p - 1, BAD, (y, w) -> y.far(0, w));
            }
        });
        check.test("Promise 18", "MISSING, also from a value to itself; NOT if w cannot be reached from v", x -> {
            check.due("far(0, 0)", x.far(0, 0), MISSING);
            check.due("far(0, 1)", x.far(0, 1), MISSING);
            check.reads(x, "1", 1);
            check.due("far(0, 0)", x.far(0, 0), 0);
            check.due("far(0, 1)", x.far(0, 1), NOT);
            check.due("far(100, 0)", x.far(100, 0), NOT);
            check.due("far(100, 100)", x.far(100, 100), 0);
        });
    }

    private static void reaching() {
        check.test("Promise 19", "how many values can be reached, itself included: from 1 to P", x -> {
            for (int p : new int[] {5, 101, 199}) {
                x.prime(p);
                check.reads(x, "1", 1);
                check.due("reach(0)", x.reach(0), 1);
                check.due("reach(p - 1)", x.reach(p - 1), 1);
                check.reads(x, "1y1+1", 1);
                check.due("reach(0)", x.reach(0), 2);
                check.due("reach(p - 1)", x.reach(p - 1), 1);
                check.reads(x, "1y1+" + (p - 1) + "x1+" + (p - 1), 1);
                check.due("reach(0)", x.reach(0), p);
                check.due("reach(p - 1)", x.reach(p - 1), p);
            }
        });
        check.test("Promise 19", "v: the value; BAD if it is not from 0 to P - 1; MISSING", x -> {
            check.due("reach(0)", x.reach(0), MISSING);
            for (int p : new int[] {5, 101, 199}) {
                x.prime(p);
                check.reads(x, "1", 1);
                check.takes(x, "reach(v)", 0, 4, (y, v) -> y.reach(v));
                check.refuses(x, "reach(v)", 0, p - 1, BAD, (y, v) -> y.reach(v));
            }
        });
        check.test("The equation", "v can be reached from itself, once, also if it is its own neighbor or no neighbor of any value", x -> {
            check.reads(x, "1y2+99x1y1+1x2", 2);
            check.due("far(5, 5)", x.far(5, 5), 0);
            check.due("reach(5)", x.reach(5), 1);
            check.reads(x, "1y1+1", 1);
            check.due("far(5, 5)", x.far(5, 5), 0);
            check.due("reach(5)", x.reach(5), 2);
        });
    }

    private static void countsAre(CountedEquations x, String text, int... due) {
        check.feedAll(x, text);
        x.read();
        for (int what = 0; what <= 3; what++) {
            check.due("values(" + what + ") of " + text, x.values(what), due[what]);
        }
    }

    private static void counts() {
        check.test("Promise 20", "what: 0 to 3; NONE if what is not valid", x -> {
            check.reads(x, "1", 1);
            check.takesOnly(x, "values(what)", 0, 3, NONE, (y, what) -> y.values(what));
        });
        check.test("Promise 20", "MISSING for each number", x -> {
            for (int what = 0; what <= 3; what++) {
                check.due("values(" + what + ")", x.values(what), MISSING);
            }
        });
        check.test("Promise 20", "0 the values that are neighbors of themselves: none, the least, the greatest, all", x -> {
            countsAre(x, "1y1+100x1+100", 0, 0, 0, 1);
            countsAre(x, "1y1", 1, 0, 0, 1);
            countsAre(x, "1y1+1", 1, 0, 0, 1);
            countsAre(x, "1y1+100x1", 101, 0, 0, 1);
        });
        check.test("Promise 20", "1 the degenerate values: none, the least, the greatest, all", x -> {
            countsAre(x, "1y1+2", 1, 0, 0, 1);
            countsAre(x, "1x1", 0, 1, 100, 0);
            countsAre(x, "1x1+1", 0, 1, 100, 0);
            countsAre(x, "0", 0, 101, 0, 0);
        });
        check.test("Promise 20", "2 the values that are not degenerate and have no neighbors: none, the least, the greatest, all", x -> {
            countsAre(x, "1y1+3", 1, 0, 0, 1);
            countsAre(x, "1x1y1+1", 2, 0, 1, 1);
            // (x + 1) y + x: at -1 there is -1 left, and 0 and -2 are their own neighbors.
            countsAre(x, "1x1y1+1y1+1x1", 2, 0, 1, 1);
            countsAre(x, "9", 0, 0, 101, 0);
        });
        check.test("Promise 20", "each number, for the least and the greatest modulus", x -> {
            for (int p : new int[] {5, 199}) {
                x.prime(p);
                countsAre(x, "1y1+" + (p - 1) + "x1", p, 0, 0, 1);
                countsAre(x, "0", 0, p, 0, 0);
                countsAre(x, "2", 0, 0, p, 0);
                countsAre(x, "1x1y1+1y1", 1, 1, 0, 1);
                countsAre(x, "1y2+" + (p - 1) + "x1", 2, 0, (p - 1) / 2, 2);
            }
        });
        check.test("Promise 20", "3 the maximum number of neighbors of a value: from 0 to 8", x -> {
            countsAre(x, "0", 0, 101, 0, 0);
            for (int m = 1; m <= 8; m++) {
                countsAre(x, "1y" + m, 1, 0, 0, m);
            }
            x.prime(7);
            // y^2 + 3 x^2 = (y - 2x)(y + 2x); at 0 it is y^2.
            countsAre(x, "1y2+3x2", 1, 0, 0, 2);
            // x y^2 + y: at 0 there is one neighbor, elsewhere 0 and -1/x; and -1 is no square.
            countsAre(x, "1x1y2+1y1", 1, 0, 0, 2);
        });
        check.test("Promise 20", "3 the maximum number of neighbors of a value: the least value alone has it, the greatest one alone", x -> {
            x.prime(5);
            // y^2 + 2 + 3 x^4: y^2 = 3 has no zero at 0, y^2 = 0 has one, twice, at all others.
            countsAre(x, "1y2+2+3x4", 0, 0, 1, 2);
            // (1 - x^4) y^3 + y: only at 0 the cube is left.
            countsAre(x, "1y3+4x4y3+1y1", 1, 0, 0, 3);
            // The same at 4, by x + 1 in place of x: (x + 1)^4 = x^4 + 4x^3 + x^2 + 4x + 1
            countsAre(x, "4x4y3+1x3y3+4x2y3+1x1y3+1y1", 1, 0, 0, 3);
        });
    }
}
