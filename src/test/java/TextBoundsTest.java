import java.util.function.IntPredicate;

/**
 * A test for each sentence about texts that names a boundary: Commands, Polynomials as text, Syntax
 * errors, promises 25 to 29.
 */
public final class TextBoundsTest {
    private static final int NONE = -1, BAD = -2, STATE = -3, MISSING = -11;
    private static final int LEAST = Check.LEAST_INT, GREATEST = Check.GREATEST_INT;
    private static final int SYNTAX = -100;
    private static final Check check = new Check("TextBoundsTest");

    public static void main(String[] args) {
        tape();
        programs();
        commands();
        numbers();
        words();
        programBytes();
        terms();
        coefficients();
        termBytes();
        errorsInPrograms();
        errorsInPolynomials();
        afterwards();
        writing();
        paper();
        check.end();
    }

    private static void tape() {
        check.test("Commands", "the tape holds at most 100 bytes: the 100th is taken, the 101st is not", x -> {
            for (int n = 1; n <= 100; n++) {
                check.due("feed", x.feed('1'), n);
            }
            check.due("feed", x.feed('1'), STATE);
            check.due("feed", x.feed('+'), STATE);
            check.due("count(3)", x.count(3), 100);
        });
        check.test("Commands", "a program of 100 bytes is carried out whole", x -> {
            String text = "j 00 1;".repeat(13) + "j 005 080";
            check.due("the length of the text", text.length(), 100);
            check.runs(x, text, 14);
            check.due("of(5, 1)", x.of(5, 1), 80);
        });
        check.test("Polynomials as text", "a polynomial of 100 bytes is read whole", x -> {
            String text = "1+".repeat(47) + "01x8y7";
            check.due("the length of the text", text.length(), 100);
            check.reads(x, text, 8);
            check.due("term(8, 7)", x.term(8, 7), 1);
            check.due("term(0, 0)", x.term(0, 0), 47);
        });
        check.test("Promise 25", "letter: the byte, 1 to 127; BAD", x -> {
            for (int letter : new int[] {1, 2, 126, 127}) {
                check.holds("feed(" + letter + ")", x.feed(letter) > 0);
            }
            check.refuses(x, "feed(letter)", 1, 127, BAD, (y, letter) -> y.feed(letter));
            for (int letter : new int[] {255, 256, 256 + '1', 128 + '1', -'1', LEAST + '1'}) {
                check.due("feed(" + letter + ")", x.feed(letter), BAD);
            }
            check.due("count(3)", x.count(3), 4);
        });
        check.test("Promise 25", "the tape is empty at first, and again after a program and a polynomial", x -> {
            check.due("feed", x.feed('1'), 1);
            check.due("read()", x.read(), 1);
            check.due("feed", x.feed('1'), 1);
            check.due("deeds()", x.deeds(), SYNTAX);
            check.due("feed", x.feed('1'), 1);
            check.due("feed", x.feed('x'), 2);
            check.due("read()", x.read(), SYNTAX - 2);
            check.due("feed", x.feed('1'), 1);
        });
    }

    private static void programs() {
        check.test("Commands", "a program consists of one or more commands: none is an error at 0", x -> {
            check.runs(x, "", SYNTAX);
            check.runs(x, "j 0 1", 1);
            check.runs(x, "j 1 1;j 2 1", 2);
            check.due("count(1)", x.count(1), 3);
        });
        check.test("Commands", "the most commands that the tape can hold: 16", x -> {
            check.runs(x, "j 0 1;".repeat(15) + "j 5 7", 16);
            check.due("count(1)", x.count(1), 2);
            check.due("of(5, 1)", x.of(5, 1), 7);
        });
        check.test("Commands", "commands are separated by semicolons: none ahead, none behind, not two of them", x -> {
            check.runs(x, ";", SYNTAX);
            check.runs(x, ";j 0 1", SYNTAX);
            check.runs(x, "j 0 1;", SYNTAX - 6);
            check.runs(x, "j 0 1;;j 1 1", SYNTAX - 6);
            check.runs(x, "j 0 1 j 1 1", SYNTAX - 5);
            check.runs(x, "j 0 1,j 1 1", SYNTAX - 5);
            check.due("count(1)", x.count(1), 0);
        });
        check.test("Promise 26", "executes the commands in order", x -> {
            check.runs(x, "j 0 3;stretch 0 2 0;stretch 0 3 0;over 0 0;prime 7;j 1 2;over 0 0", 6);
            check.due("count(0)", x.count(0), 7);
            check.due("count(1)", x.count(1), 1);
            check.runs(x, "j 0 3;stretch 0 2 0;stretch 0 3 0;over 0 0", 4);
            check.due("of(0, 0)", x.of(0, 0), 1006);
            check.due("of(0, 1)", x.of(0, 1), 18);
        });
        check.test("Promise 26", "-100 - k for a syntax error at position k, and no command is executed, also not those ahead of it", x -> {
            check.runs(x, "j 0 1;prime 7;j 1 1;x", SYNTAX - 20);
            check.due("count(0)", x.count(0), 101);
            check.due("count(1)", x.count(1), 0);
            check.runs(x, "prime 7;", SYNTAX - 8);
            check.due("count(0)", x.count(0), 101);
        });
    }

    private static void commands() {
        String[] texts = {"prime 7", "j 0 1", "sum 0 0 1", "times 0 0 1", "stretch 0 1 1", "over 0 1", "power 0 1 1", "find 0 0 1 0", "keep 0"};
        check.test("Commands", "each command with as many numbers as it has: one less ends too early, one more is an error", x -> {
            for (String text : texts) {
                CountedEquations y = new CountedEquations();
                y.j(0, 1);
                check.reads(y, "1", 1);
                check.runs(y, text, 1);
                check.runs(y, text + " 0", SYNTAX - text.length());
                String less = text.substring(0, text.lastIndexOf(' '));
                check.runs(y, less, SYNTAX - less.length());
                check.runs(y, less + ";" + text, SYNTAX - less.length());
            }
            check.due("count(1)", x.count(1), 0);
        });
        check.test("Commands", "each number has one space before it: none and two are errors, as are other blanks", x -> {
            check.runs(x, "j0 1", SYNTAX - 1);
            check.runs(x, "j  0 1", SYNTAX - 2);
            check.runs(x, "j 0  1", SYNTAX - 4);
            check.runs(x, "j 0-1", SYNTAX - 3);
            check.runs(x, "j\t0 1", SYNTAX - 1);
            check.runs(x, "j\n0 1", SYNTAX - 1);
            check.runs(x, "j 0\u007f1", SYNTAX - 3);
            check.runs(x, "j 0 1", 1);
        });
        check.test("Commands", "they call the method of the same name with these arguments, in their order", x -> {
            check.tells(x, 0, 1, 1, 2);
            check.tells(x, 1, 3, 5, 7);
            check.runs(x, "sum 0 1 2;times 0 1 3;stretch 0 2 4;power 0 3 5", 4);
            check.holdsSeries(x, 2, 1, 1, 2);
            check.holdsSeries(x, 3, 4, 5, 17);
            check.holdsSeries(x, 4, 2, 1, 0, 2, 0);
            check.holdsSeries(x, 5, 3, 1, 6);
            check.runs(x, "over 1 2;j 3 5", 2);
            check.due("of(2, 0)", x.of(2, 0), 997);
            check.due("of(3, 1)", x.of(3, 1), 5);
        });
        check.test("Commands", "find a b d w and keep k have their arguments in their order", x -> {
            check.tells(x, 0, 1, 1, 0, 0, 0, 0, 0, 0);
            check.tells(x, 1, 2, 1, 0, 0, 0, 0, 0, 0);
            check.runs(x, "find 0 1 2 0;keep 6", 2);
            check.due("equation(1)", x.equation(1), 20);
            check.due("term(0, 1)", x.term(0, 1), 100);
            check.due("drop(6)", x.drop(6), 101);
            check.runs(x, "find 1 0 2 0", 1);
            check.due("equation(1)", x.equation(1), 10);
            check.due("term(0, 2)", x.term(0, 2), 100);
            check.runs(x, "find 0 1 3 1", 1);
            check.due("equation(2)", x.equation(2), 1);
        });
    }

    private static void numbers() {
        check.test("Commands", "a number has 1 to 3 digits: 0 and 4 are errors", x -> {
            check.runs(x, "prime ", SYNTAX - 6);
            check.runs(x, "prime ;", SYNTAX - 6);
            check.runs(x, "prime 7", 1);
            check.runs(x, "prime 11", 1);
            check.runs(x, "prime 199", 1);
            check.runs(x, "prime 1990", SYNTAX - 9);
            check.runs(x, "prime 0007", SYNTAX - 9);
            check.due("count(0)", x.count(0), 199);
        });
        check.test("Commands", "a number has possibly a minus sign before its digits: one, ahead of 1 to 3 digits", x -> {
            check.runs(x, "prime -7", 0);
            check.runs(x, "prime -999", 0);
            check.runs(x, "prime -", SYNTAX - 7);
            check.runs(x, "prime --7", SYNTAX - 7);
            check.runs(x, "prime -1234", SYNTAX - 10);
            check.runs(x, "prime - 7", SYNTAX - 7);
            check.runs(x, "prime +7", SYNTAX - 6);
            check.runs(x, "prime 7-", SYNTAX - 7);
            check.runs(x, "prime -;", SYNTAX - 7);
            check.due("count(0)", x.count(0), 101);
        });
        check.test("Commands", "a number with a minus sign is negative", x -> {
            // There is a series 1 and a place 1, but no others below 0.
            check.reads(x, "1", 1);
            check.runs(x, "j -1 5;j 1 -5;keep -1", 0);
            check.due("count(1)", x.count(1), 0);
            check.due("count(2)", x.count(2), 0);
            check.runs(x, "j 1 5;keep 1", 2);
        });
        check.test("Details", "numbers can begin with 0, and -0 is allowed", x -> {
            check.runs(x, "prime 007", 1);
            check.runs(x, "j 000 05;j -0 -01;j -00 006;j -000 004", 3);
            check.due("of(0, 1)", x.of(0, 1), 4);
            check.runs(x, "j -0 08;j 00 009", 2);
            check.due("of(0, 1)", x.of(0, 1), 9);
        });
        check.test("Details", "a number is no error of the text if the call of the command would report an error for it", x -> {
            check.runs(x, "prime 999;prime 0;j 6 1;j 999 999;j 0 81;j 0 0;over -1 -1;j 0 80", 1);
            check.runs(x, "stretch 0 10 1;power 0 -1 1;find 0 0 9 2;keep 8;sum 9 9 9", 0);
            check.due("count(1)", x.count(1), 1);
        });
    }

    private static void words() {
        check.test("Syntax errors", "for a word that is no command: the offset of its first letter, also if the text ends behind it", x -> {
            for (String word : new String[] {"p", "prim", "primes", "ju", "su", "summ", "time", "stretchx", "ov", "powe", "fin", "kee", "a", "z", "zz"}) {
                check.runs(x, word, SYNTAX);
                check.runs(x, "j 0 1;" + word, SYNTAX - 6);
                check.runs(x, word + " 1", SYNTAX);
                check.runs(x, word + ";", SYNTAX);
            }
            check.due("count(1)", x.count(1), 0);
        });
        check.test("Syntax errors", "methods that are no commands are words that are no command", x -> {
            for (String word : new String[] {"tell", "of", "coefficient", "equation", "drop", "image", "back", "feed", "deeds", "read", "write", "count"}) {
                check.runs(x, word + " 0 0 0", SYNTAX);
            }
        });
        check.test("Details", "the longest run of letters is the word", x -> {
            check.runs(x, "jj 0 1", SYNTAX);
            check.runs(x, "jprime 7", SYNTAX);
            check.runs(x, "sumsum 0 0 0", SYNTAX);
            check.runs(x, "keepz 0", SYNTAX);
            check.runs(x, "keepa 0", SYNTAX);
            check.runs(x, "j 0 1;keeps 0", SYNTAX - 6);
        });
        check.test("Commands", "a word is a run of the letters a to z: other bytes end it, capitals too", x -> {
            check.runs(x, "J 0 1", SYNTAX);
            check.runs(x, "Prime 7", SYNTAX);
            check.runs(x, "primE 7", SYNTAX);
            check.runs(x, "primeE 7", SYNTAX - 5);
            check.runs(x, "prime{ 7", SYNTAX - 5);
            check.runs(x, "prime` 7", SYNTAX - 5);
            check.runs(x, "prim{ 7", SYNTAX);
            check.runs(x, "j 0 1;Prime 7", SYNTAX - 6);
        });
        check.test("Syntax errors", "a command whose numbers don't follow is no error of the word", x -> {
            for (String word : new String[] {"prime", "j", "sum", "times", "stretch", "over", "power", "find", "keep"}) {
                check.runs(x, word, SYNTAX - word.length());
                check.runs(x, word + ";", SYNTAX - word.length());
                check.runs(x, word + " ", SYNTAX - word.length() - 1);
            }
        });
    }

    /** Feeds the text and one byte more, for each byte, and checks where the error is; 0 is for none. */
    private static void eachByte(String text, int ahead, IntPredicate fits, int behind, IntPredicate completes) {
        for (int letter = 1; letter <= 127; letter++) {
            CountedEquations x = new CountedEquations();
            check.feedAll(x, text);
            x.feed(letter);
            boolean isFit = fits.test(letter);
            int error = SYNTAX - (isFit ? behind : ahead);
            long got = x.deeds();
            check.holds("the byte " + letter + " behind '" + text + "' answers " + got, completes.test(letter) ? got >= 0 : got == error);
        }
    }

    private static boolean isDigit(int letter) {
        return letter >= '0' && letter <= '9';
    }

    private static boolean isLetter(int letter) {
        return letter >= 'a' && letter <= 'z';
    }

    private static void programBytes() {
        IntPredicate none = letter -> false;
        check.test("Syntax errors", "in a program each byte from 1 to 127: at the beginning",
            x -> eachByte("", 0, letter -> letter == 'j', 1, none));
        check.test("Syntax errors", "in a program each byte from 1 to 127: behind a word, where a letter makes it another word", x -> {
            for (int letter = 1; letter <= 127; letter++) {
                CountedEquations y = new CountedEquations();
                check.feedAll(y, "prime");
                y.feed(letter);
                check.due("the byte " + letter + " behind 'prime'", y.deeds(), letter == ' ' ? SYNTAX - 6 : isLetter(letter) ? SYNTAX : SYNTAX - 5);
            }
        });
        check.test("Syntax errors", "in a program each byte from 1 to 127: behind the space",
            x -> eachByte("prime ", 6, letter -> letter == '-', 7, TextBoundsTest::isDigit));
        check.test("Syntax errors", "in a program each byte from 1 to 127: behind the minus sign",
            x -> eachByte("prime -", 7, none, 8, TextBoundsTest::isDigit));
        check.test("Syntax errors", "in a program each byte from 1 to 127: behind the second digit of the last number",
            x -> eachByte("prime 11", 8, letter -> letter == ';', 9, TextBoundsTest::isDigit));
        check.test("Syntax errors", "in a program each byte from 1 to 127: behind the third digit of the last number",
            x -> eachByte("prime 011", 9, letter -> letter == ';', 10, none));
        check.test("Syntax errors", "in a program each byte from 1 to 127: behind the third digit of a number that isn't the last one",
            x -> eachByte("j 000", 5, letter -> letter == ' ', 6, none));
        check.test("Syntax errors", "in a program each byte from 1 to 127: behind the first digit of a number that isn't the last one",
            x -> eachByte("j 0", 3, letter -> letter == ' ' || isDigit(letter), 4, none));
        check.test("Syntax errors", "in a program each byte from 1 to 127: behind a semicolon",
            x -> eachByte("prime 7;", 8, letter -> letter == 'j', 9, none));
    }

    private static void terms() {
        check.test("Polynomials as text", "one or more terms with + between them: none is an error at 0", x -> {
            check.reads(x, "", SYNTAX);
            check.reads(x, "3", 1);
            check.reads(x, "3+4x1", 1);
            check.due("term(1, 0)", x.term(1, 0), 4);
            check.reads(x, "+3", SYNTAX);
            check.reads(x, "3+", SYNTAX - 2);
            check.reads(x, "3++4", SYNTAX - 2);
            check.reads(x, "3 + 4", SYNTAX - 1);
            check.reads(x, "3;4", SYNTAX - 1);
        });
        check.test("Polynomials as text", "the most terms that the tape can hold: 50", x -> {
            check.reads(x, "1+".repeat(49) + "1", 1);
            check.due("term(0, 0)", x.term(0, 0), 50);
            check.reads(x, "1+".repeat(49) + "52", 1);
            check.due("term(0, 0) wraps around", x.term(0, 0), 0);
        });
        check.test("Polynomials as text", "a number of 1 to 3 digits without a sign: 0 and 4 digits are errors", x -> {
            check.reads(x, "7x1", 1);
            check.reads(x, "77x1", 1);
            check.reads(x, "777x1", 1);
            check.due("term(1, 0)", x.term(1, 0), 777 % 101);
            check.reads(x, "7777x1", SYNTAX - 3);
            check.reads(x, "0007x1", SYNTAX - 3);
            check.reads(x, "x1", SYNTAX);
            check.reads(x, "y1", SYNTAX);
            check.reads(x, "1+x1", SYNTAX - 2);
            check.reads(x, "-1", SYNTAX);
            check.reads(x, "1+-1", SYNTAX - 2);
            check.reads(x, "-0", SYNTAX);
        });
        check.test("Polynomials as text", "x and a digit from 1 to 8: 0 and 9, no digit and two digits are errors", x -> {
            check.reads(x, "1x1", 1);
            check.reads(x, "1x8", 8);
            check.reads(x, "1x0", SYNTAX - 2);
            check.reads(x, "1x9", SYNTAX - 2);
            check.reads(x, "1x", SYNTAX - 2);
            check.reads(x, "1x+1", SYNTAX - 2);
            check.reads(x, "1x11", SYNTAX - 3);
            check.reads(x, "1xy1", SYNTAX - 2);
            check.reads(x, "1x1x1", SYNTAX - 3);
        });
        check.test("Polynomials as text", "then y and a digit from 1 to 8: 0 and 9, no digit and two digits are errors, as is y ahead of x", x -> {
            check.reads(x, "1y1", 1);
            check.reads(x, "1x1y8", 8);
            check.reads(x, "1y0", SYNTAX - 2);
            check.reads(x, "1x1y9", SYNTAX - 4);
            check.reads(x, "1y", SYNTAX - 2);
            check.reads(x, "1x1y", SYNTAX - 4);
            check.reads(x, "1y11", SYNTAX - 3);
            check.reads(x, "1y1x1", SYNTAX - 3);
            check.reads(x, "1y1y1", SYNTAX - 3);
            check.reads(x, "1x1y1x1", SYNTAX - 5);
        });
    }

    private static void coefficients() {
        check.test("Polynomials as text", "coefficients of equal terms are added, and wrap around", x -> {
            check.reads(x, "100x1y1+1x1y1+7", 1);
            check.due("term(1, 1)", x.term(1, 1), 0);
            check.reads(x, "100x1y1+2x1y1+7+95", 1);
            check.due("term(1, 1)", x.term(1, 1), 1);
            check.due("term(0, 0)", x.term(0, 0), 1);
            check.reads(x, "999+999+999x8y8+999x8y8", 8);
            check.due("term(0, 0)", x.term(0, 0), 1998 % 101);
            check.due("term(8, 8)", x.term(8, 8), 1998 % 101);
            x.prime(5);
            check.reads(x, "5x1+4+1y1+4y1", 1);
            check.due("equation(3)", x.equation(3), 1);
        });
        check.test("Polynomials as text", "terms are equal only if both exponents are", x -> {
            check.reads(x, "1x1+2y1+3x1y1+4", 1);
            check.due("term(1, 0)", x.term(1, 0), 1);
            check.due("term(0, 1)", x.term(0, 1), 2);
            check.due("term(1, 1)", x.term(1, 1), 3);
            check.due("term(0, 0)", x.term(0, 0), 4);
        });
        check.test("Polynomials as text", "the degree is the greatest digit behind an x or y, also with the coefficient 0", x -> {
            check.reads(x, "1x3y5+1x4", 5);
            check.reads(x, "1x5y3+1y4", 5);
            check.reads(x, "0x8", 8);
            check.reads(x, "0y8+1x1", 8);
            check.reads(x, "101x7+1", 7);
            check.reads(x, "1y6+100y6", 6);
            check.due("equation(0)", x.equation(0), 6);
        });
        check.test("Polynomials as text", "the degree is 1 if there is no x and no y", x -> {
            check.reads(x, "8", 1);
            check.reads(x, "888+8", 1);
            check.reads(x, "0", 1);
            check.due("equation(0)", x.equation(0), 1);
            check.due("term(1, 1)", x.term(1, 1), 0);
            check.due("term(2, 0)", x.term(2, 0), NONE);
        });
        check.test("Details", "numbers in texts can begin with 0, -0 is for programs alone", x -> {
            check.reads(x, "007x1+00y1+01", 1);
            check.due("term(1, 0)", x.term(1, 0), 7);
            check.due("term(0, 0)", x.term(0, 0), 1);
            check.reads(x, "000", 1);
            check.due("equation(3)", x.equation(3), 0);
        });
    }

    /** The same for a polynomial: behind is the length if the text ends too early with that byte. */
    private static void eachTermByte(String text, IntPredicate completes, IntPredicate fits) {
        for (int letter = 1; letter <= 127; letter++) {
            CountedEquations x = new CountedEquations();
            check.feedAll(x, text);
            x.feed(letter);
            long got = x.read();
            long error = SYNTAX - text.length() - (fits.test(letter) ? 1 : 0);
            check.holds("the byte " + letter + " behind '" + text + "' answers " + got, completes.test(letter) ? got > 0 : got == error);
        }
    }

    private static void termBytes() {
        IntPredicate none = letter -> false;
        IntPredicate exponent = letter -> letter >= '1' && letter <= '8';
        check.test("Syntax errors", "in a polynomial each byte from 1 to 127: at the beginning and behind a +", x -> {
            eachTermByte("", TextBoundsTest::isDigit, none);
            eachTermByte("1x1+", TextBoundsTest::isDigit, none);
        });
        check.test("Syntax errors", "in a polynomial each byte from 1 to 127: behind one, two and three digits", x -> {
            IntPredicate goesOn = letter -> letter == 'x' || letter == 'y' || letter == '+';
            eachTermByte("1", TextBoundsTest::isDigit, goesOn);
            eachTermByte("12", TextBoundsTest::isDigit, goesOn);
            eachTermByte("123", none, goesOn);
        });
        check.test("Syntax errors", "in a polynomial each byte from 1 to 127: behind x and y", x -> {
            eachTermByte("1x", exponent, none);
            eachTermByte("1y", exponent, none);
            eachTermByte("1x1y", exponent, none);
        });
        check.test("Syntax errors", "in a polynomial each byte from 1 to 127: behind the digits of x and y", x -> {
            eachTermByte("1x1", none, letter -> letter == 'y' || letter == '+');
            eachTermByte("1y1", none, letter -> letter == '+');
            eachTermByte("1x1y1", none, letter -> letter == '+');
        });
    }

    private static void errorsInPrograms() {
        check.test("Syntax errors", "no valid text, of any length: what fits at the end of a full tape ends too early, at 100", x -> {
            String[] ends = {"j 0 ", "j 00", "over", "keep", "find"};
            for (String end : ends) {
                CountedEquations y = new CountedEquations();
                check.runs(y, "j 0 1;".repeat(16) + end, SYNTAX - 100);
            }
            check.runs(x, "j 0 12;".repeat(14) + "j ", SYNTAX - 100);
        });
        check.test("Syntax errors", "at the end of a full tape: the last byte is wrong, the last word is no command", x -> {
            check.runs(x, "j 0 1;".repeat(16) + "j 0x", SYNTAX - 99);
            check.runs(x, "j 0 1;".repeat(16) + "prim", SYNTAX - 96);
            x = new CountedEquations();
            check.runs(x, "j 0 12;".repeat(14) + "jj", SYNTAX - 98);
            check.runs(x, "j 0 12;".repeat(14) + "j;", SYNTAX - 99);
        });
        check.test("Syntax errors", "the first error counts, not a later one", x -> {
            check.runs(x, "x y;z", SYNTAX);
            check.runs(x, "j 0 1 ;zz", SYNTAX - 5);
            check.runs(x, "j 0 x;prim 7", SYNTAX - 4);
            check.runs(x, "prime 7;prim x;;", SYNTAX - 8);
        });
        check.test("Details", "a second space is an error, and a space ahead of a semicolon, too", x -> {
            check.runs(x, "prime  7", SYNTAX - 6);
            check.runs(x, "prime 7 ;j 0 1", SYNTAX - 7);
            check.runs(x, "prime 7 ", SYNTAX - 7);
            check.runs(x, " prime 7", SYNTAX);
            check.runs(x, "prime 7; j 0 1", SYNTAX - 8);
            check.due("count(0)", x.count(0), 101);
        });
        check.test("Details", "an empty tape is an error at 0, for both kinds of text, again and again", x -> {
            for (int times = 0; times < 3; times++) {
                check.due("deeds()", x.deeds(), SYNTAX);
                check.due("read()", x.read(), SYNTAX);
            }
            check.runs(x, "prime 7", 1);
            check.due("deeds()", x.deeds(), SYNTAX);
        });
    }

    private static void errorsInPolynomials() {
        check.test("Syntax errors", "a polynomial that ends too early: the length of the text, on a full tape 100", x -> {
            check.reads(x, "1x1+2y", SYNTAX - 6);
            check.reads(x, "1x1+", SYNTAX - 4);
            check.reads(x, "1+".repeat(50), SYNTAX - 100);
            check.reads(x, "1+".repeat(49) + "1x", SYNTAX - 100);
            CountedEquations y = new CountedEquations();
            check.reads(y, "1+".repeat(49) + "1 ", SYNTAX - 99);
            check.reads(y, "1+".repeat(48) + "1234", SYNTAX - 99);
        });
        check.test("Promise 27", "-100 - k for a syntax error at position k, and the equation stays", x -> {
            check.reads(x, "5x2+6", 2);
            check.reads(x, "7x3+1z", SYNTAX - 5);
            check.reads(x, "8x4+", SYNTAX - 4);
            check.due("equation(0)", x.equation(0), 2);
            check.due("term(2, 0)", x.term(2, 0), 5);
            check.due("term(0, 0)", x.term(0, 0), 6);
            check.due("equation(3)", x.equation(3), 2);
        });
    }

    private static void afterwards() {
        check.test("Promise 26", "the tape is empty afterwards: after commands with and without errors, after a syntax error", x -> {
            check.runs(x, "prime 7", 1);
            check.runs(x, "prime 8", 0);
            check.runs(x, "prime", SYNTAX - 5);
            check.runs(x, "", SYNTAX);
            check.runs(x, "j 0 1", 1);
        });
        check.test("Promise 26", "the number of commands that did not report an error: none, some, all", x -> {
            check.runs(x, "over 0 1;over 1 2;over 2 3", 0);
            check.runs(x, "j 0 1;over 1 2;over 0 3", 2);
            check.runs(x, "j 0 1;over 0 2;over 2 3", 3);
        });
        check.test("Promise 27", "the polynomial becomes the equation, in place of all that it was", x -> {
            check.reads(x, "1x8y8+2x8+3y8+4", 8);
            check.reads(x, "5y1", 1);
            check.due("equation(0)", x.equation(0), 1);
            check.due("equation(3)", x.equation(3), 1);
            check.reads(x, "0x8", 8);
            check.due("equation(3)", x.equation(3), 0);
            check.due("term(8, 8)", x.term(8, 8), 0);
        });
        check.test("Promise 27", "a text of one kind is no text of the other kind", x -> {
            check.reads(x, "prime 7", SYNTAX);
            check.runs(x, "1x1", SYNTAX);
            check.due("count(0)", x.count(0), 101);
            check.due("equation(0)", x.equation(0), MISSING);
        });
    }

    private static void writing() {
        check.test("Promise 28", "the terms whose coefficients are not 0, the greatest one first; or 0 if there is none", x -> {
            check.reads(x, "1+2y1+3x1+4x1y1+0x2", 2);
            check.writes(x, "4x1y1+3x1+2y1+1");
            check.reads(x, "0x8y8", 8);
            check.writes(x, "0");
            check.reads(x, "5", 1);
            check.writes(x, "5");
        });
        check.test("Promise 28", "coefficients of 1, 2 and 3 digits, up to P - 1", x -> {
            x.prime(199);
            check.reads(x, "9x4+10x3+99x2+100x1+198", 4);
            check.writes(x, "9x4+10x3+99x2+100x1+198");
            check.reads(x, "109x3+101x2+190x1+20", 3);
            check.writes(x, "109x3+101x2+190x1+20");
            x.prime(5);
            check.reads(x, "4x1+5y1+6", 1);
            check.writes(x, "4x1+1");
        });
        check.test("Details", "coefficients 1 are written, and exponents 1", x -> {
            check.reads(x, "1x1y1+1x1+1y1+1", 1);
            check.writes(x, "1x1y1+1x1+1y1+1");
        });
        check.test("Promise 28", "the first and the last term, x^8 y^8 and the constant; x^8 alone and y^8 alone", x -> {
            check.reads(x, "7+6x8y8+5y8+4x8", 8);
            check.writes(x, "6x8y8+4x8+5y8+7");
        });
        check.test("Promise 28", "MISSING leaves the paper", x -> {
            check.due("write()", x.write(), MISSING);
            check.due("count(4)", x.count(4), 0);
            check.reads(x, "12x1", 1);
            check.due("write()", x.write(), 4);
            x.prime(101);
            check.due("write()", x.write(), MISSING);
            check.due("count(4)", x.count(4), 4);
            check.due("paper(3)", x.paper(3), '1');
        });
        check.test("Promise 28", "a text of all 81 terms is written whole, and a short one takes its place", x -> {
            int length = findLong(x);
            check.due("write()", x.write(), length);
            check.due("paper(length - 1)", x.paper(length - 1) >= '0' ? 1 : 0, 1);
            check.due("paper(length)", x.paper(length), NONE);
            check.reads(x, "3", 1);
            check.writes(x, "3");
            check.due("paper(1)", x.paper(1), NONE);
        });
    }

    /** Finds a polynomial that has all 81 coefficients, and returns how long its text is. */
    private static int findLong(CountedEquations x) {
        x.prime(199);
        long number = 1;
        for (int s = 0; s < 2; s++) {
            int[] numbers = new int[80];
            for (int t = 0; t < 80; t++) {
                number = number * 6364136223846793005L + 1442695040888963407L;
                numbers[t] = (int) (number >>> 40) % 199;
            }
            check.tells(x, s, 0, numbers);
        }
        check.due("find(0, 1, 8, 0)", x.find(0, 1, 8, 0), 1);
        StringBuilder text = new StringBuilder();
        for (int i = 8; i >= 0; i--) {
            for (int k = 8; k >= 0; k--) {
                int c = x.term(i, k);
                if (c > 0) {
                    text.append(text.length() > 0 ? "+" : "").append(c).append(i > 0 ? "x" + i : "").append(k > 0 ? "y" + k : "");
                }
            }
        }
        check.due("the length of the text", text.length(), 568);
        return text.length();
    }

    private static void paper() {
        check.test("Promise 29", "the paper is empty at first, and not written by read", x -> {
            check.refuses(x, "paper(i)", 0, -1, NONE, (y, i) -> y.paper(i));
            check.reads(x, "5x1", 1);
            check.due("paper(0)", x.paper(0), NONE);
        });
        check.test("Promise 29", "i: the position, from 0; NONE if there is no such position", x -> {
            check.reads(x, "5x1", 1);
            check.due("write()", x.write(), 3);
            check.due("paper(0)", x.paper(0), '5');
            check.due("paper(1)", x.paper(1), 'x');
            check.due("paper(2)", x.paper(2), '1');
            check.refuses(x, "paper(i)", 0, 2, NONE, (y, i) -> y.paper(i));
        });
        check.test("Promise 29", "behind a shorter text there is no position, though a longer one was there", x -> {
            check.reads(x, "100x8y8", 8);
            check.due("write()", x.write(), 7);
            check.reads(x, "4", 1);
            check.due("paper(6)", x.paper(6), '8');
            check.due("write()", x.write(), 1);
            for (int i = 1; i <= 7; i++) {
                check.due("paper(" + i + ")", x.paper(i), NONE);
            }
            check.due("paper(GREATEST)", x.paper(GREATEST), NONE);
        });
    }
}
