import java.math.BigInteger;

/** Promises 12 to 20: finding, the equation, and the graph of its zeros. */
public final class EquationTest {
    private static final int NONE = -1, BAD = -2, STATE = -3, NOT = -5, MISSING = -11;
    private static final Check check = new Check("EquationTest");

    public static void main(String[] args) {
        findSmall();
        findLevelTwo();
        findLevelThree();
        findHigherLevels();
        findErrors();
        equation();
        term();
        at();
        vanishes();
        neighbour();
        far();
        reach();
        values();
        graphFollowsTheEquation();
        check.end();
    }

    /** Sets series 0 to q^start with a length. */
    private static void monomial(CountedEquations x, int start, int n) {
        int[] numbers = new int[n];
        numbers[0] = 1;
        check.tells(x, 0, start, numbers);
    }

    private static void found(CountedEquations x, int d, int way, int free, String written) {
        check.due("find(0, 0, " + d + ", " + way + ")", x.find(0, 0, d, way), free);
        check.due("equation(0)", x.equation(0), d);
        check.writes(x, written);
    }

    private static void findSmall() {
        check.promise(12, "find");
        CountedEquations x = new CountedEquations();
        // With X = Y = q and the length n, the coefficients of 1, q, .., q^(n-1) count.
        monomial(x, 1, 3);
        found(x, 1, 0, 1, "1x1+100y1");
        check.due("find(0, 0, 1, 1)", x.find(0, 0, 1, 1), NOT);
        check.writes(x, "1x1+100y1");
        monomial(x, 1, 2);
        found(x, 1, 0, 2, "1x1+100y1");
        found(x, 1, 1, 1, "1x1y1");
        monomial(x, 1, 1);
        found(x, 1, 0, 3, "1y1");
        found(x, 1, 1, 2, "1x1+1y1");
        // With X = Y = 1/q it starts at the product xy, also when its coefficient is 0.
        monomial(x, -1, 1);
        found(x, 1, 0, 3, "1");
        found(x, 1, 1, 2, "1");
        monomial(x, -1, 2);
        found(x, 1, 0, 2, "1");
        monomial(x, -1, 3);
        found(x, 1, 0, 1, "1x1+100y1");
        // Starts far away, so that no two products overlap.
        monomial(x, 99, 80);
        found(x, 8, 0, 80, "1y1");
        monomial(x, -99, 80);
        found(x, 8, 1, 44, "1");
        // A constant: X = Y = 3, and all the same for the length 80.
        check.tells(x, 0, 0, 3, 0, 0, 0);
        found(x, 1, 0, 3, "1y1+98");
        found(x, 1, 1, 2, "1x1+1y1+95");
        check.tells(x, 0, 5, 0, 0);
        found(x, 2, 0, 8, "1y1");
    }

    private static void findLevelTwo() {
        check.promise(12, "find, level 2");
        CountedEquations x = new CountedEquations();
        for (int p : new int[] {5, 7, 101, 199}) {
            x.prime(p);
            check.due("j(0, 20)", x.j(0, 20), 20);
            check.due("stretch(0, 2, 1)", x.stretch(0, 2, 1), 40);
            check.due("find(0, 1, 3, 0)", x.find(0, 1, 3, 0), 1);
            check.due("term(3, 0)", x.term(3, 0), 1);
            check.due("term(0, 3)", x.term(0, 3), 1);
            check.due("term(2, 2)", x.term(2, 2), p - 1);
            check.due("term(2, 1)", x.term(2, 1), 1488 % p);
            check.due("term(1, 2)", x.term(1, 2), 1488 % p);
            check.due("term(2, 0)", x.term(2, 0), Math.floorMod(-162000, p));
            check.due("term(1, 1)", x.term(1, 1), 40773375 % p);
            check.due("term(1, 0)", x.term(1, 0), (int) (8748000000L % p));
            check.due("term(0, 0)", x.term(0, 0), (int) Math.floorMod(-157464000000000L, (long) p));
            check.due("term(3, 3)", x.term(3, 3), 0);
            check.due("find(0, 1, 2, 1)", x.find(0, 1, 2, 1), NOT);
            check.due("equation(0)", x.equation(0), 3);
        }
    }

    private static void findLevelThree() {
        check.promise(12, "find, level 3");
        // x^i y^k with i <= k, as every table has them; the exponents are 10 * i + k.
        int[] terms = {4, 33, 23, 13, 3, 22, 12, 2, 11, 1, 0, 44, 34, 24, 14};
        String[] exact = {"1", "-1", "2232", "-1069956", "36864000", "2587918086", "8900222976000", "452984832000000",
            "-770845966336000000", "1855425871872000000000", "0", "0", "0", "0", "0"};
        for (int p : new int[] {7, 101, 199}) {
            CountedEquations x = new CountedEquations();
            x.prime(p);
            x.j(0, 30);
            x.stretch(0, 3, 1);
            for (int way = 0; way <= 1; way++) {
                check.due("find(1, 0, 4, " + way + ")", x.find(1, 0, 4, way), 1);
                for (int t = 0; t < terms.length; t++) {
                    int due = new BigInteger(exact[t]).mod(BigInteger.valueOf(p)).intValue();
                    check.due("term of level 3", x.term(terms[t] / 10, terms[t] % 10), due);
                    check.due("term of level 3", x.term(terms[t] % 10, terms[t] / 10), due);
                }
            }
        }
    }

    private static void findHigherLevels() {
        check.promise(12, "find, levels 5 and 7");
        CountedEquations x = new CountedEquations();
        for (int level = 5; level <= 7; level += 2) {
            x.j(0, 80);
            x.stretch(0, level, 1);
            check.due("find(0, 1, " + (level + 1) + ", 1)", x.find(0, 1, level + 1, 1), 1);
            check.due("equation(1)", x.equation(1), 10 * (level + 1));
            check.due("equation(2)", x.equation(2), 1);
            check.due("the term x^" + level + " y^" + level, x.term(level, level), 100);
            check.due("term(" + level + ", " + (level + 1) + ")", x.term(level, level + 1), 0);
            check.due("vanishes(0, 1)", x.vanishes(0, 1), 1);
            check.due("vanishes(1, 0)", x.vanishes(1, 0), 1);
            check.due("find(0, 1, " + level + ", 1)", x.find(0, 1, level, 1), NOT);
            for (int v = 0; v < 101; v += 9) {
                for (int w = 0; w < 101; w += 6) {
                    check.due("at(v, w) and at(w, v)", x.at(v, w), x.at(w, v));
                }
            }
            x = new CountedEquations();
        }
    }

    private static void findErrors() {
        check.promise(12, "find, errors");
        CountedEquations x = new CountedEquations();
        monomial(x, 1, 1);
        for (int s : new int[] {-1, 6, Integer.MIN_VALUE, Integer.MAX_VALUE}) {
            check.due("find(s, 0, 0, 2)", x.find(s, 0, 0, 2), NONE);
            check.due("find(0, s, 0, 2)", x.find(0, s, 0, 2), NONE);
        }
        for (int d : new int[] {0, 9, -1, Integer.MIN_VALUE, Integer.MAX_VALUE}) {
            check.due("find(0, 5, d, 0)", x.find(0, 5, d, 0), BAD);
        }
        for (int way : new int[] {-1, 2, Integer.MIN_VALUE, Integer.MAX_VALUE}) {
            check.due("find(5, 0, 1, way)", x.find(5, 0, 1, way), BAD);
        }
        check.due("find(0, 5, 1, 0)", x.find(0, 5, 1, 0), MISSING);
        check.due("find(5, 0, 1, 0)", x.find(5, 0, 1, 0), MISSING);
        check.due("equation(0)", x.equation(0), MISSING);
    }

    private static void equation() {
        check.promise(13, "equation");
        CountedEquations x = new CountedEquations();
        for (int what = 0; what < 4; what++) {
            check.due("equation(" + what + ")", x.equation(what), MISSING);
        }
        check.reads(x, "5+3x1y4+7x4y1+0x6", 6);
        equationIs(x, 6, 41, 0, 3);
        check.reads(x, "5+7x1y4+7x4y1+2x3y3", 4);
        equationIs(x, 4, 41, 1, 4);
        check.reads(x, "9", 1);
        equationIs(x, 1, 0, 1, 1);
        check.reads(x, "1x8y8+1y8", 8);
        equationIs(x, 8, 88, 0, 2);
        check.reads(x, "0x5", 5);
        equationIs(x, 5, NOT, 1, 0);
        check.reads(x, "0+1y7+2y3", 7);
        equationIs(x, 7, 7, 0, 2);
        for (int what : new int[] {-1, 4, Integer.MIN_VALUE, Integer.MAX_VALUE}) {
            check.due("equation(" + what + ")", x.equation(what), NONE);
            check.due("equation(" + what + ") of a new object", new CountedEquations().equation(what), NONE);
        }
    }

    private static void equationIs(CountedEquations x, int degree, int leading, int symmetric, int nonzero) {
        check.due("equation(0)", x.equation(0), degree);
        check.due("equation(1)", x.equation(1), leading);
        check.due("equation(2)", x.equation(2), symmetric);
        check.due("equation(3)", x.equation(3), nonzero);
    }

    private static void term() {
        check.promise(14, "term");
        CountedEquations x = new CountedEquations();
        check.due("term(8, 8)", x.term(8, 8), MISSING);
        check.reads(x, "1+2y1+3x1+4x1y1+5x2y1", 2);
        check.due("term(0, 0)", x.term(0, 0), 1);
        check.due("term(0, 1)", x.term(0, 1), 2);
        check.due("term(1, 0)", x.term(1, 0), 3);
        check.due("term(1, 1)", x.term(1, 1), 4);
        check.due("term(2, 1)", x.term(2, 1), 5);
        check.due("term(2, 2)", x.term(2, 2), 0);
        check.due("term(3, 0)", x.term(3, 0), NONE);
        check.due("term(0, 3)", x.term(0, 3), NONE);
        check.due("term(8, 8)", x.term(8, 8), NONE);
        for (int i : new int[] {-1, 9, Integer.MIN_VALUE, Integer.MAX_VALUE}) {
            check.due("term(" + i + ", 0)", x.term(i, 0), NONE);
            check.due("term(0, " + i + ")", x.term(0, i), NONE);
            check.due("term(" + i + ", 0) of a new object", new CountedEquations().term(i, 0), NONE);
            check.due("term(0, " + i + ") of a new object", new CountedEquations().term(0, i), NONE);
        }
        check.reads(x, "7x8y8", 8);
        check.due("term(8, 8)", x.term(8, 8), 7);
    }

    private static void at() {
        check.promise(15, "at");
        CountedEquations x = new CountedEquations();
        check.due("at(100, 0)", x.at(100, 0), MISSING);
        check.due("at(101, 0)", x.at(101, 0), BAD);
        check.reads(x, "3x2y1+5y3+100", 3);
        check.due("at(0, 0)", x.at(0, 0), 100);
        check.due("at(2, 1)", x.at(2, 1), 16);
        check.due("at(1, 2)", x.at(1, 2), 45);
        check.due("at(100, 100)", x.at(100, 100), 101 - 9);
        for (int v : new int[] {-1, 101, Integer.MIN_VALUE, Integer.MAX_VALUE}) {
            check.due("at(" + v + ", 0)", x.at(v, 0), BAD);
            check.due("at(0, " + v + ")", x.at(0, v), BAD);
        }
        x.prime(5);
        check.reads(x, "1x8y8", 8);
        check.due("at(4, 5)", x.at(4, 5), BAD);
        check.due("at(5, 4)", x.at(5, 4), BAD);
        check.due("at(4, 3)", x.at(4, 3), 1);
    }

    private static void vanishes() {
        check.promise(16, "vanishes");
        CountedEquations x = new CountedEquations();
        check.due("vanishes(0, 0)", x.vanishes(0, 0), MISSING);
        check.due("vanishes(0, 6)", x.vanishes(0, 6), NONE);
        check.due("vanishes(-1, 0)", x.vanishes(-1, 0), NONE);
        check.reads(x, "1", 1);
        check.due("vanishes(0, 0)", x.vanishes(0, 0), MISSING);
        // The term xy has the coefficient 0, but starts at -2, so the 1 at exponent 0 may be unknown.
        for (int n = 1; n <= 3; n++) {
            monomial(x, -1, n);
            check.due("vanishes(0, 0) of the length " + n, x.vanishes(0, 0), n < 3 ? 1 : 0);
        }
        check.due("vanishes(0, 1)", x.vanishes(0, 1), MISSING);
        check.due("vanishes(1, 0)", x.vanishes(1, 0), MISSING);
        check.tells(x, 1, 1, 1, 1, 0, 0);
        check.tells(x, 2, 2, 1, 2, 1, 0);
        check.reads(x, "1x2+100y1", 2);
        check.due("vanishes(1, 2)", x.vanishes(1, 2), 1);
        check.due("vanishes(2, 1)", x.vanishes(2, 1), 0);
        check.reads(x, "1x2+100y1+1", 2);
        check.due("vanishes(1, 2)", x.vanishes(1, 2), 0);
        // The shorter one of both counts.
        check.tells(x, 3, 2, 1, 2);
        check.reads(x, "1x2+100y1", 2);
        check.due("vanishes(1, 3)", x.vanishes(1, 3), 1);
        check.tells(x, 3, 1, 1, 2);
        check.due("vanishes(1, 3)", x.vanishes(1, 3), 0);
        check.tells(x, 3, 5, 1);
        check.due("vanishes(1, 3)", x.vanishes(1, 3), 1);
        x.j(0, 80);
        x.stretch(0, 2, 1);
        check.due("find(0, 1, 3, 1)", x.find(0, 1, 3, 1), 1);
        check.due("vanishes(0, 1)", x.vanishes(0, 1), 1);
        check.due("vanishes(1, 0)", x.vanishes(1, 0), 1);
        check.due("vanishes(0, 0)", x.vanishes(0, 0), 0);
        for (int s : new int[] {-1, 6, Integer.MIN_VALUE, Integer.MAX_VALUE}) {
            check.due("vanishes(s, 0)", x.vanishes(s, 0), NONE);
            check.due("vanishes(0, s)", x.vanishes(0, s), NONE);
        }
    }

    private static void neighbour() {
        check.promise(17, "neighbour");
        CountedEquations x = new CountedEquations();
        check.due("neighbour(0, -1)", x.neighbour(0, -1), MISSING);
        check.due("neighbour(0, -2)", x.neighbour(0, -2), BAD);
        check.due("neighbour(101, 0)", x.neighbour(101, 0), BAD);
        // (y - 3)^2 (y - 5)
        check.reads(x, "1y3+90y2+39y1+56", 3);
        for (int v : new int[] {0, 3, 5, 100}) {
            neighboursAre(x, v, 3, 3, 5);
        }
        // y^8, and the powers of y - 1: (y - 1)^8
        check.reads(x, "1y8", 8);
        neighboursAre(x, 9, 0, 0, 0, 0, 0, 0, 0, 0);
        check.reads(x, "1y8+93y7+28y6+45y5+70y4+45y3+28y2+93y1+1", 8);
        neighboursAre(x, 9, 1, 1, 1, 1, 1, 1, 1, 1);
        // x (y^2 - x): degenerate at 0; 2 is no square modulo 101, 4 is one.
        check.reads(x, "1x1y2+100x2", 2);
        check.due("neighbour(0, -1)", x.neighbour(0, -1), STATE);
        check.due("neighbour(0, 0)", x.neighbour(0, 0), STATE);
        check.due("neighbour(0, -2)", x.neighbour(0, -2), BAD);
        neighboursAre(x, 2);
        neighboursAre(x, 4, 2, 99);
        // A constant has no neighbors, and is not degenerate.
        check.reads(x, "7", 1);
        neighboursAre(x, 100);
        // The values of y^p - y are no reason: 0 as a polynomial counts, not 0 everywhere.
        x.prime(5);
        check.reads(x, "1y5+4y1", 5);
        neighboursAre(x, 4, 0, 1, 2, 3, 4);
        for (int v : new int[] {-1, 5, Integer.MIN_VALUE, Integer.MAX_VALUE}) {
            check.due("neighbour(" + v + ", 0)", x.neighbour(v, 0), BAD);
        }
        check.due("neighbour(0, MIN)", x.neighbour(0, Integer.MIN_VALUE), BAD);
        check.due("neighbour(0, MAX)", x.neighbour(0, Integer.MAX_VALUE), NOT);
    }

    private static void neighboursAre(CountedEquations x, int v, int... all) {
        check.due("neighbour(" + v + ", -1)", x.neighbour(v, -1), all.length);
        for (int k = 0; k < all.length; k++) {
            check.due("neighbour(" + v + ", " + k + ")", x.neighbour(v, k), all[k]);
        }
        check.due("neighbour(" + v + ", " + all.length + ")", x.neighbour(v, all.length), NOT);
    }

    /** (y - x - 1)(y - 2x): from each value one goes to the next one and to its double. */
    private static final String NEXT_OR_DOUBLE = "1y2+98x1y1+100y1+2x2+2x1";

    private static void far() {
        check.promise(18, "far");
        CountedEquations x = new CountedEquations();
        check.due("far(0, 0)", x.far(0, 0), MISSING);
        check.due("far(0, 101)", x.far(0, 101), BAD);
        check.reads(x, "1y1+100x1+100", 1);
        check.due("far(0, 100)", x.far(0, 100), 100);
        check.due("far(5, 4)", x.far(5, 4), 100);
        check.due("far(5, 5)", x.far(5, 5), 0);
        check.due("far(100, 1)", x.far(100, 1), 2);
        check.reads(x, NEXT_OR_DOUBLE, 2);
        check.due("far(1, 8)", x.far(1, 8), 3);
        check.due("far(1, 6)", x.far(1, 6), 3);
        check.due("far(1, 7)", x.far(1, 7), 4);
        check.due("far(8, 8)", x.far(8, 8), 0);
        check.reads(x, "1x1y1", 1);
        check.due("far(0, 0)", x.far(0, 0), 0);
        check.due("far(0, 1)", x.far(0, 1), NOT);
        check.due("far(5, 0)", x.far(5, 0), 1);
        check.due("far(5, 6)", x.far(5, 6), NOT);
        for (int v : new int[] {-1, 101, Integer.MIN_VALUE, Integer.MAX_VALUE}) {
            check.due("far(" + v + ", 0)", x.far(v, 0), BAD);
            check.due("far(0, " + v + ")", x.far(0, v), BAD);
        }
    }

    private static void reach() {
        check.promise(19, "reach");
        CountedEquations x = new CountedEquations();
        check.due("reach(0)", x.reach(0), MISSING);
        check.due("reach(101)", x.reach(101), BAD);
        check.reads(x, NEXT_OR_DOUBLE, 2);
        check.due("reach(77)", x.reach(77), 101);
        check.reads(x, "1y1+100x2", 2);
        // 10 -> 100 -> 1 -> 1, and 0 -> 0
        check.due("reach(10)", x.reach(10), 3);
        check.due("reach(0)", x.reach(0), 1);
        check.reads(x, "1x1y1", 1);
        check.due("reach(0)", x.reach(0), 1);
        check.due("reach(5)", x.reach(5), 2);
        check.reads(x, "0", 1);
        check.due("reach(5)", x.reach(5), 1);
        for (int v : new int[] {-1, 101, Integer.MIN_VALUE, Integer.MAX_VALUE}) {
            check.due("reach(" + v + ")", x.reach(v), BAD);
        }
        x.prime(199);
        check.reads(x, "1y1+198x1+1", 1);
        check.due("reach(198)", x.reach(198), 199);
    }

    private static void values() {
        check.promise(20, "values");
        CountedEquations x = new CountedEquations();
        check.due("values(0)", x.values(0), MISSING);
        check.due("values(4)", x.values(4), NONE);
        valuesAre(x, "1x1y1", 0, 1, 0, 1);
        valuesAre(x, "1x1", 0, 1, 100, 0);
        valuesAre(x, "1x1y1+100y1", 1, 1, 0, 1);
        // The only value without a neighbor is the lowest one, then the greatest one.
        valuesAre(x, "1x1y1+1", 2, 0, 1, 1);
        valuesAre(x, "1x1y1+1y1+100x1", 1, 0, 1, 1);
        valuesAre(x, "0", 0, 101, 0, 0);
        valuesAre(x, "3", 0, 0, 101, 0);
        // (y - x)^2 is counted once for each value, and twice in the number of neighbors.
        valuesAre(x, "1y2+99x1y1+1x2", 101, 0, 0, 2);
        // y^2 = x: 50 squares with two roots, 0 with a double one, 50 others; 0 and 1 are their own.
        valuesAre(x, "1y2+100x1", 2, 0, 50, 2);
        // (x - 4)(y - x): degenerate at 4
        valuesAre(x, "1x1y1+100x2+97y1+4x1", 100, 1, 0, 1);
        for (int what : new int[] {-1, 4, Integer.MIN_VALUE, Integer.MAX_VALUE}) {
            check.due("values(" + what + ")", x.values(what), NONE);
        }
        x.prime(199);
        valuesAre(x, "1y2+198x1", 2, 0, 99, 2);
    }

    private static void valuesAre(CountedEquations x, String text, int own, int degenerate, int lonely, int most) {
        check.feedAll(x, text);
        x.read();
        check.due("values(0) of " + text, x.values(0), own);
        check.due("values(1) of " + text, x.values(1), degenerate);
        check.due("values(2) of " + text, x.values(2), lonely);
        check.due("values(3) of " + text, x.values(3), most);
    }

    /** What was found about one equation must not be answered for the next one. */
    private static void graphFollowsTheEquation() {
        check.part("promises 17 to 20, after a change of the equation");
        CountedEquations x = new CountedEquations();
        check.reads(x, "1y1+100x1", 1);
        check.due("neighbour(3, 0)", x.neighbour(3, 0), 3);
        check.due("image()", x.image(), 0);
        check.reads(x, "1y1+100x1+100", 1);
        check.due("neighbour(3, 0)", x.neighbour(3, 0), 4);
        check.due("values(0)", x.values(0), 0);
        check.due("back()", x.back(), 0);
        check.due("neighbour(3, 0)", x.neighbour(3, 0), 3);
        check.due("values(0)", x.values(0), 101);
        check.tells(x, 0, 0, 3, 0);
        check.due("find(0, 0, 1, 0)", x.find(0, 0, 1, 0), 3);
        check.due("neighbour(5, 0)", x.neighbour(5, 0), 3);
        check.due("reach(5)", x.reach(5), 2);
        x.prime(5);
        check.reads(x, "1y1+4x1+4", 1);
        check.due("neighbour(4, 0)", x.neighbour(4, 0), 0);
        check.due("back()", x.back(), 0);
        check.due("neighbour(4, 0)", x.neighbour(4, 0), 4);
        check.runs(x, "prime 7;j 0 1;find 0 0 1 0", 3);
        check.due("neighbour(4, -1)", x.neighbour(4, -1), 0);
    }
}
