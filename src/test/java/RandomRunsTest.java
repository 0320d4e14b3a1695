/** Long runs of calls, each answered by the program and by the model; the same runs each time. */
public final class RandomRunsTest {
    private static final int RUNS = 2400, PAIRS = 120;
    /** More calls than one step makes, and the last look at the counts and terms. */
    private static final int STEP = 100, LAST_LOOK = 30;
    private static final int[] PRIMES = {5, 7, 11, 13, 17, 19, 23, 31, 53, 97, 101, 103, 127, 149, 167, 173, 179, 181, 191, 193, 197, 199};
    private static final int[] WILD = {Integer.MIN_VALUE, Integer.MIN_VALUE + 1, -1000, -100, -99, -14, -2, -1, 0, 1, 2, 3, 4, 5, 6, 7, 8, 9,
        10, 79, 80, 81, 99, 100, 101, 127, 128, 198, 199, 200, 1000, 1 << 30, Integer.MAX_VALUE - 1, Integer.MAX_VALUE};
    private static final String[] PROGRAMS = {"prime", "j", "sum", "times", "stretch", "over", "power", "find", "keep"};
    private static final int[] NUMBERS = {1, 2, 3, 3, 3, 2, 3, 4, 1};

    private final Check check = new Check("RandomRunsTest");
    private long seed;
    private CountedEquations x;
    private Model m;
    /** The object that waits while calls are made on x, with its own model. */
    private CountedEquations otherX;
    private Model otherM;
    /** How wild the arguments of this run are, in percent. */
    private int wild;
    private int longest;
    private int widest;

    /** A plain linear congruence, so that every machine makes the same runs. */
    private int below(int bound) {
        seed = seed * 6364136223846793005L + 1442695040888963407L;
        return (int) ((seed >>> 33) % bound);
    }

    private int arg(int least, int greatest) {
        if (below(100) < wild) {
            return below(4) == 0 ? (int) (seed >>> 20) : WILD[below(WILD.length)];
        }
        if (below(100) < 3) {
            return below(2) == 0 ? least - 1 : greatest + 1;
        }
        return least + below(greatest - least + 1);
    }

    private int series() {
        return arg(0, 5);
    }

    private int filled() {
        return arg(0, 2);
    }

    private int value() {
        return arg(0, x.count(0) - 1);
    }

    private int start() {
        return below(3) == 0 ? arg(-99, 99) : arg(-6, 6);
    }

    private int modulus() {
        return below(5) == 0 ? arg(2, 201) : PRIMES[below(PRIMES.length)];
    }

    private int length() {
        return arg(1, longest);
    }

    private int degree() {
        return arg(1, widest);
    }

    private void feedBoth(String text) {
        for (int t = 0; t < text.length(); t++) {
            check.due("feed", x.feed(text.charAt(t)), m.feed(text.charAt(t)));
        }
    }

    private String number(int n) {
        String digits = (n < 0 ? "-" : "") + (below(12) == 0 ? "0" : "") + Math.abs(n);
        return below(30) == 0 ? "-" + n : digits;
    }

    private String command() {
        int c = below(NUMBERS.length);
        int[][] bounds = {{5, 199}, {0, 5, 1, 80}, {0, 2, 0, 2, 0, 5}, {0, 2, 0, 2, 0, 5}, {0, 2, 1, 9, 0, 5}, {0, 2, 0, 5},
            {0, 2, 0, 9, 0, 5}, {0, 2, 0, 2, 1, 3, 0, 1}, {0, 7}};
        StringBuilder text = new StringBuilder(PROGRAMS[c]);
        for (int t = 0; t < NUMBERS[c]; t++) {
            int least = bounds[c][2 * t];
            int n = c == 0 ? PRIMES[below(PRIMES.length)] : least + below(bounds[c][2 * t + 1] - least + 1);
            text.append(' ').append(number(below(15) == 0 ? n - 3 : n));
        }
        return text.toString();
    }

    private String program() {
        StringBuilder text = new StringBuilder(command());
        for (int more = below(4); more > 0; more--) {
            text.append(';').append(command());
        }
        return spoil(text, " ;-0159jprimekeepsum{A");
    }

    private String polynomial() {
        StringBuilder text = new StringBuilder();
        for (int more = 1 + below(5); more > 0; more--) {
            text.append(text.length() == 0 ? "" : "+").append(below(4) == 0 ? below(1000) : below(12));
            text.append(below(3) == 0 ? "" : "x" + (1 + below(widest))).append(below(3) == 0 ? "" : "y" + (1 + below(widest)));
        }
        return spoil(text, "+xy0189z -");
    }

    private String spoil(StringBuilder text, String letters) {
        for (int times = below(3); times == 2; times = below(2)) {
            char letter = letters.charAt(below(letters.length()));
            int place = below(text.length());
            switch (below(4)) {
                case 0: text.setCharAt(place, letter); break;
                case 1: text.insert(place, letter); break;
                case 2: text.deleteCharAt(place); break;
                default: text.setLength(place); break;
            }
            if (text.length() == 0) {
                return "";
            }
        }
        return text.toString();
    }

    private void fillList() {
        int list = arg(0, 3);
        int n = arg(0, below(3) == 0 ? 80 : 6);
        check.due("list", x.list(list, n), m.list(list, n));
        for (int t = 0; t < Math.min(n, 8); t++) {
            int v = below(4) == 0 ? 0 : arg(-300, 300);
            check.due("put", x.put(list, t, v), m.put(list, t, v));
        }
    }

    private void seriesCall() {
        int a = filled();
        int b = filled();
        int to = series();
        int n;
        switch (below(9)) {
            case 0: n = modulus(); check.due("prime " + n, x.prime(n), m.prime(n)); break;
            case 1: n = length(); check.due("j", x.j(to, n), m.j(to, n)); break;
            case 2: n = start(); b = arg(0, 3); check.due("tell", x.tell(to, b, n), m.tell(to, b, n)); break;
            case 3: check.due("sum", x.sum(a, b, to), m.sum(a, b, to)); break;
            case 4: check.due("times", x.times(a, b, to), m.times(a, b, to)); break;
            case 5: n = arg(1, 9); check.due("stretch", x.stretch(a, n, to), m.stretch(a, n, to)); break;
            case 6: check.due("over", x.over(a, to), m.over(a, to)); break;
            case 7: n = arg(0, 9); check.due("power", x.power(a, n, to), m.power(a, n, to, true)); break;
            default: check.due("j", x.j(0, 12), m.j(0, 12)); check.due("stretch", x.stretch(0, 2, 1), m.stretch(0, 2, 1)); break;
        }
    }

    /** Goes from -1 to n, by leaps in the middle of what is long, to save calls. */
    private int next(int t, int n) {
        return t < 8 || t == n ? t + 1 : Math.min(n, t + 1 + below(12));
    }

    private void compareSeries() {
        int s = series();
        for (int what = -1; what <= 3; what++) {
            check.due("of(" + s + ", " + what + ")", x.of(s, what), m.of(s, what));
        }
        int start = m.of(s, 0) - 1000;
        int n = m.of(s, 1);
        for (int t = -1; t <= n && n > 0; t = next(t, n)) {
            check.due("coefficient", x.coefficient(s, start + t), m.coefficient(s, start + t));
        }
        int e = WILD[below(WILD.length)];
        check.due("coefficient of " + e, x.coefficient(s, e), m.coefficient(s, e));
    }

    private void equationCall() {
        int a = filled();
        int b = filled();
        int v = value();
        int w = value();
        int d = degree();
        int k = arg(-1, 8);
        switch (below(12)) {
            case 0: case 1: v = arg(0, 1); check.due("find " + d + " " + v, x.find(a, b, d, v), m.find(a, b, d, v)); break;
            case 2: k = arg(0, 3); check.due("equation " + k, x.equation(k), m.equation(k)); break;
            case 3: compareTerms(); break;
            case 4: check.due("at", x.at(v, w), m.at(v, w)); break;
            case 5: check.due("vanishes", x.vanishes(a, b), m.vanishes(a, b)); break;
            case 6: check.due("neighbour", x.neighbour(v, k), m.neighbour(v, k)); break;
            case 7: check.due("far", x.far(v, w), m.far(v, w)); break;
            case 8: check.due("reach", x.reach(v), m.reach(v)); break;
            case 9: k = arg(0, 3); check.due("values " + k, x.values(k), m.values(k)); break;
            case 10: feedBoth(polynomial()); check.due("read", x.read(), m.read()); break;
            default: check.due("write", x.write(), m.write()); comparePaper(); break;
        }
    }

    private void compareTerms() {
        for (int i = -1; i <= 9; i++) {
            int k = arg(0, 8);
            check.due("term(" + i + ", " + k + ")", x.term(i, k), m.term(i, k));
            check.due("term(" + k + ", " + i + ")", x.term(k, i), m.term(k, i));
        }
    }

    private void comparePaper() {
        int n = m.count(4);
        for (int t = -1; t <= n && x.left() > LAST_LOOK; t = next(t, n)) {
            check.due("paper(" + t + ")", x.paper(t), m.paper(t));
        }
    }

    private void keptCall() {
        int k = arg(0, 7);
        int i = arg(0, 3);
        switch (below(6)) {
            case 0: case 1: check.due("keep", x.keep(k), m.keep(k)); break;
            case 2: check.due("drop", x.drop(k), m.drop(k)); break;
            case 3: case 4: check.due("joined(" + i + ", " + (k - 1) + ")", x.joined(i, k - 1), m.joined(i, k - 1)); break;
            default: check.due("whole", x.whole(), m.whole()); break;
        }
    }

    private void listCall() {
        int list = arg(0, 3);
        int i = arg(0, 79);
        int s = series();
        switch (below(6)) {
            case 0: i = arg(0, 80); check.due("list", x.list(list, i), m.list(list, i)); break;
            case 1: s = arg(-300, 300); check.due("put", x.put(list, i, s), m.put(list, i, s)); break;
            case 2: i = below(8); check.due("get", x.get(list, i), m.get(list, i)); break;
            case 3: check.due("lay", x.lay(list, s), m.lay(list, s)); break;
            case 4: check.due("judge", x.judge(list, s), m.judge(list, s)); break;
            default: fillList(); break;
        }
    }

    private void otherCall() {
        int n = arg(1, 127);
        switch (below(6)) {
            case 0: check.due("image", x.image(), m.image()); break;
            case 1: check.due("back", x.back(), m.back()); break;
            case 2: check.due("feed", x.feed(n), m.feed(n)); break;
            case 3: check.due("deeds", x.deeds(), m.deeds()); break;
            case 4: check.due("read", x.read(), m.read()); break;
            default: compareCounts(); break;
        }
    }

    private void compareCounts() {
        for (int what = -1; what <= 5; what++) {
            check.due("count(" + what + ")", x.count(what), m.count(what));
        }
    }

    private void call() {
        int kind = below(20);
        if (kind < 5) {
            seriesCall();
        } else if (kind < 8) {
            compareSeries();
        } else if (kind < 13) {
            equationCall();
        } else if (kind < 15) {
            keptCall();
        } else if (kind < 17) {
            listCall();
        } else if (kind < 18) {
            feedBoth(program());
            check.due("deeds", x.deeds(), m.deeds());
        } else {
            otherCall();
        }
    }

    private void prepare(int number) {
        seed = 1000L + 77L * number;
        wild = new int[] {0, 2, 30}[number % 3];
        longest = new int[] {80, 6, 20, 3}[number % 4];
        widest = new int[] {2, 8, 3, 1, 5}[number % 5];
    }

    private void begin() {
        x = new CountedEquations();
        m = new Model();
        int p = PRIMES[below(PRIMES.length)];
        check.due("prime", x.prime(p), m.prime(p));
        for (int s = 0; s < 3; s++) {
            int n = 1 + below(longest);
            check.due("j", x.j(s, n), m.j(s, n));
        }
    }

    private void compareAtTheEnd() {
        compareTerms();
        compareCounts();
        while (x.left() >= 40) {
            compareSeries();
        }
    }

    private void run(int number) {
        check.place("run " + number);
        prepare(number);
        begin();
        while (x.left() >= STEP + LAST_LOOK) {
            call();
        }
        compareAtTheEnd();
    }

    private void swap() {
        CountedEquations waiting = otherX;
        Model waitingM = otherM;
        otherX = x;
        otherM = m;
        x = waiting;
        m = waitingM;
    }

    /** The calls on one of the objects must not show in the other one. */
    private void runTwo(int number) {
        check.place("pair " + number);
        prepare(number);
        begin();
        swap();
        begin();
        while (x.left() >= STEP + LAST_LOOK) {
            call();
            swap();
        }
        compareAtTheEnd();
        swap();
        compareAtTheEnd();
    }

    public static void main(String[] args) {
        RandomRunsTest test = new RandomRunsTest();
        int runs = args.length > 0 ? Integer.parseInt(args[0]) : RUNS;
        test.check.part("promises 1 to 37, " + runs + " long runs answered by the class and by the model");
        for (int number = 0; number < runs; number++) {
            test.run(number);
        }
        test.check.part("promise 1: each object is a new one: " + PAIRS + " pairs of objects with their calls in alternation");
        for (int number = 0; number < PAIRS; number++) {
            test.runTwo(number);
        }
        test.check.end();
    }
}
