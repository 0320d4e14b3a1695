/** The document's three examples, each with a new object. */
public final class ExamplesTest {
    private static final Check check = new Check("ExamplesTest");

    public static void main(String[] args) {
        anEquationAndItsStretchedOne();
        twoEquationsReadFromAText();
        aTextWithAnUnknownVariable();
        check.end();
    }

    private static void anEquationAndItsStretchedOne() {
        check.part("an equation and its stretched one");
        CountedEquations x = new CountedEquations();
        check.due("j(0, 4)", x.j(0, 4), 4);
        check.due("of(0, 0)", x.of(0, 0), 999);
        check.due("coefficient(0, -1)", x.coefficient(0, -1), 1);
        check.due("coefficient(0, 0)", x.coefficient(0, 0), 37);
        check.due("coefficient(0, 3)", x.coefficient(0, 3), -5);
        check.due("stretch(0, 2, 1)", x.stretch(0, 2, 1), 8);
        check.due("of(1, 0)", x.of(1, 0), 998);
        check.due("of(1, 1)", x.of(1, 1), 8);
    }

    private static void twoEquationsReadFromAText() {
        check.part("two equations read from a text");
        CountedEquations x = new CountedEquations();
        int[] letters = {49, 120, 49, 43, 50, 121, 50};
        for (int t = 0; t < letters.length; t++) {
            check.due("feed(" + letters[t] + ")", x.feed(letters[t]), t + 1);
        }
        check.due("read()", x.read(), 2);
        check.due("equation(1)", x.equation(1), 10);
        check.due("at(3, 1)", x.at(3, 1), 5);
        check.due("neighbour(99, -1)", x.neighbour(99, -1), 2);
        check.due("write()", x.write(), 7);
    }

    private static void aTextWithAnUnknownVariable() {
        check.part("a text with an unknown variable");
        CountedEquations x = new CountedEquations();
        check.due("feed(49)", x.feed(49), 1);
        check.due("feed(122)", x.feed(122), 2);
        check.due("read()", x.read(), -101);
    }
}
