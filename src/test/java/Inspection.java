/**
 * All that can be asked of an object, as a text: two objects with the same text are in the same
 * state. Asking uses the object up, since some of it shows only by a change (the tape, the image).
 * It is meant for small states: short series and lists, and kept polynomials of the same degree.
 */
final class Inspection {
    private static final int MOST_BYTES = 12;

    private Inspection() {
    }

    static String of(CountedEquations x) {
        StringBuilder text = new StringBuilder();
        addPaper(text, x);
        addLists(text, x);
        addContents(text, x);
        addPlaces(text, x);
        addTape(text, x);
        text.append("image ").append(x.back()).append('\n');
        addContents(text, x);
        addPlaces(text, x);
        return text.toString();
    }

    /** The paper comes first, and whole, because it is the last text that was written. */
    private static void addPaper(StringBuilder text, CountedEquations x) {
        text.append("paper ");
        int n = x.count(4);
        text.append(n);
        for (int i = 0; i <= Math.min(n, MOST_BYTES); i++) {
            text.append(' ').append(x.paper(i));
        }
        text.append('\n');
    }

    private static void addLists(StringBuilder text, CountedEquations x) {
        for (int list = 0; list < 4; list++) {
            // The index -1 tells a missing list from one without numbers.
            text.append("list ").append(x.put(list, -1, 0));
            long number = x.get(list, 0);
            for (int i = 1; number != LevelEquations.NO; i++) {
                text.append(' ').append(number);
                number = x.get(list, i);
            }
            text.append('\n');
        }
    }

    private static void addContents(StringBuilder text, CountedEquations x) {
        text.append("counts ");
        for (int what = 0; what < 4; what++) {
            text.append(' ').append(x.count(what));
        }
        for (int s = 0; s < 6; s++) {
            addSeries(text, x, s);
        }
        addEquation(text, x);
    }

    private static void addSeries(StringBuilder text, CountedEquations x, int s) {
        int n = x.of(s, 1);
        text.append("\nseries ").append(n);
        if (n > 0) {
            int start = x.of(s, 0) - 1000;
            text.append(" from ").append(start);
            for (int t = 0; t < n; t++) {
                text.append(' ').append(x.coefficient(s, start + t));
            }
        }
    }

    private static void addEquation(StringBuilder text, CountedEquations x) {
        int d = x.equation(0);
        text.append("\nequation ").append(d);
        for (int i = 0; i <= Math.min(d, 2); i++) {
            for (int k = 0; k <= Math.min(d, 2); k++) {
                text.append(' ').append(x.term(i, k));
            }
        }
        text.append(' ').append(x.equation(1)).append(' ').append(x.equation(3)).append(' ').append(x.values(3)).append(' ').append(x.reach(1));
        text.append('\n');
    }

    /** Drops them one by one, so that what is left shows what each of them had. */
    private static void addPlaces(StringBuilder text, CountedEquations x) {
        text.append("places ").append(x.whole());
        addJoined(text, x);
        for (int k = 0; k < 8; k++) {
            int p = x.drop(k);
            text.append(' ').append(p);
            if (p > 0) {
                addJoined(text, x);
            }
        }
        text.append('\n');
    }

    private static void addJoined(StringBuilder text, CountedEquations x) {
        text.append(" of ").append(x.joined(0, 0)).append(' ').append(x.joined(1, 0)).append(' ').append(x.joined(1, 1));
    }

    /** What is on the tape shows by what the equation becomes, if there is a polynomial on it. */
    private static void addTape(StringBuilder text, CountedEquations x) {
        text.append("tape ").append(x.count(3)).append(' ').append(x.read());
        addEquation(text, x);
    }
}
