/** Promises 25 to 29: the tape, programs, polynomials as text, the paper. */
public final class TextTest {
    private static final int NONE = -1, BAD = -2, STATE = -3, NOT = -5, MISSING = -11;
    private static final Check check = new Check("TextTest");

    public static void main(String[] args) {
        feed();
        deedsCommands();
        deedsCounts();
        deedsErrors();
        deedsLong();
        read();
        readErrors();
        write();
        paper();
        check.end();
    }

    private static void feed() {
        check.promise(25, "feed");
        CountedEquations x = new CountedEquations();
        for (int letter : new int[] {0, 128, -1, Integer.MIN_VALUE, Integer.MAX_VALUE}) {
            check.due("feed(" + letter + ")", x.feed(letter), BAD);
        }
        check.due("count(3)", x.count(3), 0);
        for (int t = 1; t <= 100; t++) {
            check.due("feed(" + t + ")", x.feed(t), t);
            check.due("count(3)", x.count(3), t);
        }
        check.due("feed(49)", x.feed(49), STATE);
        check.due("feed(127)", x.feed(127), STATE);
        check.due("feed(128)", x.feed(128), BAD);
        check.due("count(3)", x.count(3), 100);
        check.due("read()", x.read(), -100);
        check.due("feed(127)", x.feed(127), 1);
        check.due("deeds()", x.deeds(), -100);
    }

    /** Each command does what the method of its name does, with its numbers in their order. */
    private static void deedsCommands() {
        check.promise(26, "deeds, commands");
        CountedEquations x = new CountedEquations();
        check.runs(x, "prime 103", 1);
        check.due("count(0)", x.count(0), 103);
        check.runs(x, "j 4 3", 1);
        check.holdsSeries(x, 4, -1, 1, 744 % 103, 196884 % 103);
        check.tells(x, 0, 1, 1, 2, 3);
        check.tells(x, 1, 2, 5, 6, 7);
        check.runs(x, "sum 0 1 2", 1);
        check.holdsSeries(x, 2, 1, 1, 7, 9);
        check.runs(x, "times 0 1 3", 1);
        check.holdsSeries(x, 3, 3, 5, 16, 34);
        check.runs(x, "stretch 0 2 5", 1);
        check.holdsSeries(x, 5, 2, 1, 0, 2, 0, 3, 0);
        check.runs(x, "over 0 5", 1);
        check.holdsSeries(x, 5, -1, 1, 101, 1);
        check.runs(x, "power 0 2 5", 1);
        check.holdsSeries(x, 5, 2, 1, 4, 10);
        check.runs(x, "find 0 5 2 0", 1);
        check.due("equation(0)", x.equation(0), 2);
        check.due("vanishes(0, 5)", x.vanishes(0, 5), 1);
        CountedEquations y = new CountedEquations();
        y.prime(103);
        check.tells(y, 0, 1, 1, 2, 3);
        y.power(0, 2, 5);
        check.due("find(0, 5, 2, 0)", y.find(0, 5, 2, 0) > 0 ? 1 : 0, 1);
        check.due("equation(1)", x.equation(1), y.equation(1));
        check.runs(x, "find 0 5 2 1", 1);
        check.due("equation(2)", x.equation(2), 1);
        check.runs(x, "keep 6", 1);
        check.due("drop(6)", x.drop(6), 103);
        check.runs(x, "prime 11;j 0 9;stretch 0 2 1;find 0 1 2 1;find 0 1 3 1;keep 0;keep 1;keep 0;over 1 5", 7);
        check.due("count(2)", x.count(2), 1);
        check.due("count(1)", x.count(1), 3);
        check.due("equation(0)", x.equation(0), 3);
    }

    private static void deedsCounts() {
        check.promise(26, "deeds, counts");
        CountedEquations x = new CountedEquations();
        check.runs(x, "prime 4", 0);
        check.runs(x, "prime 4;prime 7;prime 999;prime -7;prime 005", 2);
        check.due("count(0)", x.count(0), 5);
        check.runs(x, "j 0 1;j -0 002;j -1 5;j 6 5;j 0 81;j 00 -05", 2);
        check.due("of(0, 1)", x.of(0, 1), 2);
        check.due("count(1)", x.count(1), 1);
        check.runs(x, "keep 0;over 0 1;over 2 3", 1);
        check.runs(x, "j 0 1;find 0 0 1 1;j 0 9;find 0 0 1 1", 3);
        check.due("NOT leaves the equation", x.equation(1), 0);
        check.runs(x, "j 1 4;j 2 4;j 3 4", 3);
        x.prime(5);
        check.runs(x, "j 0 1", 1);
        check.due("no earlier command is executed again", x.count(1), 1);
        check.runs(x, "find 0 0 1 0", 1);
        check.runs(x, "keep 8", 0);
        check.runs(x, "keep 7", 1);
        x = new CountedEquations();
        check.runs(x, "j 0 1;".repeat(15) + "j -0 0;j 5", -200);
        check.runs(x, "j 0 1;".repeat(15) + "j -00 -081", 15);
        check.runs(x, "j 0 1;".repeat(15) + "j 05 7", 16);
        check.due("of(5, 1)", x.of(5, 1), 7);
    }

    private static void deedsErrors() {
        check.promise(26, "deeds, errors");
        Object[] cases = {
            "", 0, "p", 0, "prim", 0, "primes 7", 0, "prim;", 0, "zz", 0, "Prime 7", 0, " prime 7", 0, ";", 0, "7", 0, "{", 0, "`", 0,
            "primea 7", 0, "primez 7", 0, "zprime 7", 0, "aprime 7", 0, "prime 7;keepa 0", 8, "prime 7;keepz 0", 8, "prime{ 7", 5, "prime` 7", 5,
            "primeprime 7", 0, "jj 0 1", 0, "b 1", 0,
            "prime", 5, "prime7", 5, "prime;", 5, "primE 7", 0, "primeE", 5, "prime ", 6, "prime  7", 6, "prime x", 6, "prime -", 7,
            "prime --7", 7, "prime +7", 6, "prime - 7", 7, "prime 7 ", 7, "prime 7 ;", 7, "prime 7 8", 7, "prime 7x", 7, "prime 7-", 7,
            "prime 0007", 9, "prime 1234", 9, "prime -1234", 10, "prime 7;", 8, "prime 7;;", 8, "prime 7; j 0 1", 8, "prime 7;j", 9,
            "prime 7;j 0", 11, "prime 7;j 0;", 11, "prime 7;j 0 1 2", 13, "prime 7;jo 0 1", 8, "prime 7;sum", 11, "prime 7;su", 8,
            "prime 7,j 0 1", 7, "prime 7;7", 8, "sum 0 0", 7, "sum 0 0 0 0", 9, "times 0 0", 9, "times 0 0 0 0", 11, "stretch 0 1", 11,
            "stretch 0 1 0 0", 13, "over 0", 6, "over 0 0 0", 8, "power 0 1", 9, "power 0 1 0 0", 11, "find 0 0 1", 10,
            "find 0 0 1 1 1", 12, "keep", 4, "keep 0 0", 6, "j", 1, "j0 1", 1, "j 0 1\n", 5, "of 0 0", 0, "prime 7;write", 8,
            "prime 7:j 0 1", 7, "prime 7/", 7, "prime :", 6, "prime /", 6,
        };
        for (int c = 0; c < cases.length; c += 2) {
            CountedEquations x = new CountedEquations();
            check.runs(x, (String) cases[c], -100 - (Integer) cases[c + 1]);
            check.due("no command of '" + cases[c] + "' is executed", x.count(0), 101);
            check.due("count(1)", x.count(1), 0);
        }
    }

    private static void deedsLong() {
        check.promise(26, "deeds, a full tape");
        CountedEquations x = new CountedEquations();
        // 16 commands of 6 bytes, then 4 bytes of one that is not ended.
        check.runs(x, "j 0 1;".repeat(16) + "j 0 ", -200);
        check.runs(x, "j 0 1;".repeat(15) + "j 0 0012;x", -100 - 97);
        check.runs(x, "j 0 1;".repeat(15) + "j 0 012;xy", -100 - 98);
        check.due("count(1)", x.count(1), 0);
    }

    private static void read() {
        check.promise(27, "read");
        CountedEquations x = new CountedEquations();
        check.reads(x, "5", 1);
        check.writes(x, "5");
        check.reads(x, "005x1y2", 2);
        check.writes(x, "5x1y2");
        check.reads(x, "999x8", 8);
        check.due("term(8, 0)", x.term(8, 0), 999 % 101);
        check.due("equation(3)", x.equation(3), 1);
        check.reads(x, "1y3+100y3+50x2+60x2+101", 3);
        check.writes(x, "9x2");
        check.reads(x, "0x7+1", 7);
        check.writes(x, "1");
        check.reads(x, "0y4", 4);
        check.writes(x, "0");
        check.reads(x, "1+2y1+3x1+4x1y1", 1);
        check.writes(x, "4x1y1+3x1+2y1+1");
        x.j(0, 5);
        check.reads(x, "1", 1);
        check.due("the series stay", x.of(0, 1), 5);
        x.prime(5);
        check.reads(x, "7x1+004x1+123y2", 2);
        check.writes(x, "1x1+3y2");
        String full = "1+".repeat(49) + "1";
        check.reads(x, full + "1", 1);
        check.writes(x, "" + (49 + 11) % 5);
    }

    private static void readErrors() {
        check.promise(27, "read, errors");
        CountedEquations x = new CountedEquations();
        check.reads(x, "8x2y1", 2);
        Object[] cases = {
            "", 0, "x1", 0, "+1", 0, "-1", 0, " 1", 0, "z", 0, "1z", 1, "1 ", 1, "1X1", 1, "1x", 2, "1x0", 2, "1x9", 2, "1xx1", 2, "1xy1", 2,
            "1x1x1", 3, "1x12", 3, "1x1y", 4, "1x1y0", 4, "1x1y9", 4, "1x1y1y1", 5, "1x1y1x1", 5, "1y", 2, "1y1x1", 3, "1y12", 3, "1234", 3,
            "0000", 3, "123x1234", 5, "1+", 2, "1++1", 2, "1+x1", 2, "1+-1", 2, "1x1+", 4, "1x1+2y2+", 8, "1x1+2y2+3;", 9, "1-1", 1, "1;", 1,
            "/", 0, ":", 0, "1x/", 2, "1x:", 2, "12x1y2+1234", 10, "1x1y1 ", 5,
        };
        for (int c = 0; c < cases.length; c += 2) {
            check.feedAll(x, (String) cases[c]);
            check.due("read() of '" + cases[c] + "'", x.read(), -100 - (Integer) cases[c + 1]);
            check.due("count(3)", x.count(3), 0);
            if (c % 20 == 0) {
                check.due("the equation stays", x.equation(1), 21);
                check.due("the equation stays", x.equation(3), 1);
                x = new CountedEquations();
                check.reads(x, "8x2y1", 2);
            }
        }
        x = new CountedEquations();
        check.feedAll(x, "1+".repeat(50));
        check.due("read() of a full tape", x.read(), -200);
        check.due("equation(0)", x.equation(0), MISSING);
    }

    private static void write() {
        check.promise(28, "write");
        CountedEquations x = new CountedEquations();
        check.due("write()", x.write(), MISSING);
        x.prime(199);
        check.due("write()", x.write(), MISSING);
        check.due("count(4)", x.count(4), 0);
        check.reads(x, "198x8y8+100x8+10x1y8+99y1+9+1y8", 8);
        check.writes(x, "198x8y8+100x8+10x1y8+1y8+99y1+9");
        check.reads(x, "199+0x3", 3);
        check.writes(x, "0");
        check.due("count(4)", x.count(4), 1);
        x.prime(101);
        check.due("write()", x.write(), MISSING);
        check.due("the paper stays", x.paper(0), '0');
        check.reads(x, "1x1", 1);
        check.due("the paper stays", x.count(4), 1);
        check.writes(x, "1x1");
        longest();
    }

    /** All 81 terms of degree 8, by (1 + q)-like series whose lowest polynomial is full of terms. */
    private static void longest() {
        CountedEquations x = new CountedEquations();
        x.prime(199);
        check.due("list(0, 80)", x.list(0, 80), 1);
        int number = 1;
        for (int t = 0; t < 80; t++) {
            number = (number * 67 + 45) % 199;
            check.due("put", x.put(0, t, number), 1);
        }
        check.due("tell(0, 0, 0)", x.tell(0, 0, 0), 80);
        for (int t = 0; t < 80; t++) {
            number = (number * number + 7 * t + 3) % 199;
            check.due("put", x.put(0, t, number), 1);
        }
        check.due("tell(1, 0, 0)", x.tell(1, 0, 0), 80);
        check.due("find(0, 1, 8, 0)", x.find(0, 1, 8, 0) > 0 ? 1 : 0, 1);
        int length = 0;
        int terms = 0;
        for (int i = 0; i <= 8; i++) {
            for (int k = 0; k <= 8; k++) {
                int c = x.term(i, k);
                if (c > 0) {
                    length += (c + (i > 0 ? "x1" : "") + (k > 0 ? "y1" : "")).length();
                    terms++;
                }
            }
        }
        check.holds("the polynomial has many terms", terms > 60);
        check.due("write()", x.write(), length + terms - 1);
        check.due("count(4)", x.count(4), length + terms - 1);
        check.holds("its last byte is a digit", x.paper(length + terms - 2) >= '0' && x.paper(length + terms - 2) <= '9');
        check.due("paper behind its last byte", x.paper(length + terms - 1), NONE);
    }

    private static void paper() {
        check.promise(29, "paper");
        CountedEquations x = new CountedEquations();
        check.due("paper(0)", x.paper(0), NONE);
        check.reads(x, "12x3y4+56", 4);
        check.due("paper(0)", x.paper(0), NONE);
        check.due("write()", x.write(), 9);
        String due = "12x3y4+56";
        for (int t = 0; t < 9; t++) {
            check.due("paper(" + t + ")", x.paper(t), due.charAt(t));
        }
        for (int i : new int[] {-1, 9, 10, 100, 647, 648, Integer.MIN_VALUE, Integer.MAX_VALUE}) {
            check.due("paper(" + i + ")", x.paper(i), NONE);
        }
        check.reads(x, "7", 1);
        check.due("write()", x.write(), 1);
        check.due("paper(0)", x.paper(0), '7');
        check.due("paper(1)", x.paper(1), NONE);
    }
}
