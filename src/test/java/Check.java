import java.util.Arrays;
import java.util.function.Consumer;

/**
 * Counts and prints the calls whose answers are not the ones that are due. The calls are made in
 * named parts, and each part is a test: a line tells whether it holds, which .ci/run counts.
 */
final class Check {
    /** Far more than a test needs; a call that doesn't end must not keep .ci/run from telling so. */
    private static final long MOST_MILLISECONDS = 120_000;
    static final int LEAST_INT = Integer.MIN_VALUE, GREATEST_INT = Integer.MAX_VALUE;

    /** A call with one argument that varies. */
    interface Call {
        long answer(CountedEquations x, int argument);
    }

    private final String test;
    private String part = "";
    /** Where in a long part the calls are, for the message about a wrong one. */
    private String place = "";
    private int made;
    private int wrong;
    private int wrongBefore;
    private int passed;
    private int failed;

    Check(String test) {
        this.test = test;
        Thread watch = new Thread(this::endLate);
        watch.setDaemon(true);
        watch.start();
    }

    private void endLate() {
        try {
            Thread.sleep(MOST_MILLISECONDS);
        } catch (InterruptedException e) {
            return;
        }
        System.out.println("FAILED  " + test + ", " + part + place + ": does not end");
        Runtime.getRuntime().halt(1);
    }

    void promise(int number, String words) {
        part("promise " + number + " (" + words + ")");
    }

    void part(String words) {
        closePart();
        part = words;
        place = "";
        wrongBefore = wrong;
    }

    void place(String words) {
        place = ", " + words;
    }

    /**
     * A test of one sentence on a new object; where names the promise or the paragraph that says it.
     * What it throws is its own fault, and doesn't keep the next test from running.
     */
    void test(String where, String sentence, Consumer<CountedEquations> body) {
        part(where + ": " + sentence);
        int before = made;
        try {
            body.accept(new CountedEquations());
        } catch (RuntimeException e) {
            holds("no " + e, false);
        }
        holds("the test asks for something", made > before);
        closePart();
    }

    private void closePart() {
        if (part.isEmpty()) {
            return;
        }
        if (wrong == wrongBefore) {
            passed++;
        } else {
            failed++;
        }
        System.out.println((wrong == wrongBefore ? "ok      " : "FAILED  ") + test + ", " + part);
        part = "";
    }

    void due(String call, long got, long want) {
        made++;
        if (got != want) {
            wrong++;
            System.out.println("    " + test + ", " + part + place + ": " + call + " answered " + got + ", due is " + want);
        }
    }

    void holds(String what, boolean itHolds) {
        due(what, itHolds ? 1 : 0, 1);
    }

    /** All arguments from least to greatest are taken. */
    void takes(CountedEquations x, String call, int least, int greatest, Call of) {
        for (int argument = least; argument <= greatest; argument++) {
            holds(call + " takes " + argument, of.answer(x, argument) >= 0);
        }
    }

    /** The arguments beside the least and the greatest one, and the farthest ones, are answered by an error. */
    void refuses(CountedEquations x, String call, int least, int greatest, long error, Call of) {
        for (int argument : new int[] {least - 1, greatest + 1, LEAST_INT, GREATEST_INT}) {
            due(call + " with " + argument, of.answer(x, argument), error);
        }
    }

    void takesOnly(CountedEquations x, String call, int least, int greatest, long error, Call of) {
        takes(x, call, least, greatest, of);
        refuses(x, call, least, greatest, error, of);
    }

    /** n times the same number. */
    static int[] filled(int number, int n) {
        int[] numbers = new int[n];
        Arrays.fill(numbers, number);
        return numbers;
    }

    /** A number, and n - 1 zeros behind it. */
    static int[] headed(int number, int n) {
        int[] numbers = new int[n];
        numbers[0] = number;
        return numbers;
    }

    /** The numbers from 1 to n. */
    static int[] counted(int n) {
        int[] numbers = new int[n];
        for (int t = 0; t < n; t++) {
            numbers[t] = t + 1;
        }
        return numbers;
    }

    /** Sets all six series to 1 + 2q. */
    void tellAll(CountedEquations x) {
        lists(x, 3, 1, 2);
        for (int s = 0; s < 6; s++) {
            due("tell(" + s + ", 3, 0)", x.tell(s, 3, 0), 2);
        }
    }

    /** Feeds a whole text, and checks the lengths that feed answers. */
    void feedAll(CountedEquations x, String text) {
        int before = x.count(3);
        for (int t = 0; t < text.length(); t++) {
            due("feed of " + text + " at " + t, x.feed(text.charAt(t)), before + t + 1);
        }
    }

    void reads(CountedEquations x, String text, int want) {
        feedAll(x, text);
        due("read() of '" + text + "'", x.read(), want);
        due("count(3) after read() of '" + text + "'", x.count(3), 0);
    }

    void runs(CountedEquations x, String text, int want) {
        feedAll(x, text);
        due("deeds() of '" + text + "'", x.deeds(), want);
        due("count(3) after deeds() of '" + text + "'", x.count(3), 0);
    }

    void writes(CountedEquations x, String want) {
        due("write()", x.write(), want.length());
        StringBuilder written = new StringBuilder();
        int length = x.count(4);
        for (int t = 0; t < length; t++) {
            written.append((char) x.paper(t));
        }
        holds("the paper '" + written + "' is '" + want + "'", want.contentEquals(written));
    }

    /** Fills a list with numbers. */
    void lists(CountedEquations x, int list, int... numbers) {
        due("list(" + list + ", " + numbers.length + ")", x.list(list, numbers.length), 1);
        for (int t = 0; t < numbers.length; t++) {
            due("put(" + list + ", " + t + ", " + numbers[t] + ")", x.put(list, t, numbers[t]), 1);
        }
    }

    /** Sets a series by way of list 3. */
    void tells(CountedEquations x, int series, int start, int... numbers) {
        lists(x, 3, numbers);
        due("tell(" + series + ", 3, " + start + ")", x.tell(series, 3, start), numbers.length);
    }

    /** Compares all that can be asked of a series. */
    void holdsSeries(CountedEquations x, int series, int start, int... numbers) {
        due("of(" + series + ", 0)", x.of(series, 0), start + 1000);
        due("of(" + series + ", 1)", x.of(series, 1), numbers.length);
        due("coefficient below the start", x.coefficient(series, start - 1), 0);
        for (int t = 0; t < numbers.length; t++) {
            due("coefficient(" + series + ", " + (start + t) + ")", x.coefficient(series, start + t), numbers[t]);
        }
        due("coefficient behind the last", x.coefficient(series, start + numbers.length), LevelEquations.NOT);
    }

    void end() {
        closePart();
        System.out.println("        " + test + ": " + made + " answers, " + wrong + " wrong; " + passed + " passed, " + failed + " failed");
        if (wrong != 0 || made == 0) {
            System.exit(1);
        }
    }
}
