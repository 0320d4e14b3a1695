/** Counts and prints the calls whose answers are not the ones that are due. */
final class Check {
    private final String test;
    private String promise = "";
    private int made;
    private int wrong;

    Check(String test) {
        this.test = test;
    }

    void promise(int number, String words) {
        promise = "promise " + number + " (" + words + ")";
    }

    void part(String words) {
        promise = words;
    }

    void due(String call, long got, long want) {
        made++;
        if (got != want) {
            wrong++;
            System.out.println(test + ", " + promise + ": " + call + " answered " + got + ", due is " + want);
        }
    }

    void holds(String what, boolean true1) {
        due(what, true1 ? 1 : 0, 1);
    }

    /** Feeds a whole text, and checks the lengths that feed answers. */
    void feedAll(LevelEquations x, String text) {
        int before = x.count(3);
        for (int t = 0; t < text.length(); t++) {
            due("feed of " + text + " at " + t, x.feed(text.charAt(t)), before + t + 1);
        }
    }

    void reads(LevelEquations x, String text, int want) {
        feedAll(x, text);
        due("read() of '" + text + "'", x.read(), want);
        due("count(3) after read() of '" + text + "'", x.count(3), 0);
    }

    void runs(LevelEquations x, String text, int want) {
        feedAll(x, text);
        due("deeds() of '" + text + "'", x.deeds(), want);
        due("count(3) after deeds() of '" + text + "'", x.count(3), 0);
    }

    void writes(LevelEquations x, String want) {
        due("write()", x.write(), want.length());
        StringBuilder written = new StringBuilder();
        for (int t = 0; t < x.count(4); t++) {
            written.append((char) x.paper(t));
        }
        holds("the paper '" + written + "' is '" + want + "'", want.contentEquals(written));
    }

    /** Fills a list with numbers. */
    void lists(LevelEquations x, int list, int... numbers) {
        due("list(" + list + ", " + numbers.length + ")", x.list(list, numbers.length), 1);
        for (int t = 0; t < numbers.length; t++) {
            due("put(" + list + ", " + t + ", " + numbers[t] + ")", x.put(list, t, numbers[t]), 1);
        }
    }

    /** Sets a series by way of list 3. */
    void tells(LevelEquations x, int series, int start, int... numbers) {
        lists(x, 3, numbers);
        due("tell(" + series + ", 3, " + start + ")", x.tell(series, 3, start), numbers.length);
    }

    /** Compares all that can be asked of a series. */
    void holdsSeries(LevelEquations x, int series, int start, int... numbers) {
        due("of(" + series + ", 0)", x.of(series, 0), start + 1000);
        due("of(" + series + ", 1)", x.of(series, 1), numbers.length);
        due("coefficient below the start", x.coefficient(series, start - 1), 0);
        for (int t = 0; t < numbers.length; t++) {
            due("coefficient(" + series + ", " + (start + t) + ")", x.coefficient(series, start + t), numbers[t]);
        }
        due("coefficient behind the last", x.coefficient(series, start + numbers.length), LevelEquations.NOT);
    }

    void end() {
        System.out.println(test + ": " + made + " answers, " + wrong + " wrong");
        if (wrong != 0 || made == 0) {
            System.exit(1);
        }
    }
}
