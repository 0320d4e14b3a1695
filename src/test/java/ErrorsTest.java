import java.util.ArrayList;
import java.util.List;
import java.util.function.Consumer;
import java.util.function.ToLongFunction;

/**
 * The paragraph Errors, a test for each promise: which error is reported when several apply, and
 * that a call which reports an error leaves the state unchanged.
 */
public final class ErrorsTest {
    private static final int NONE = -1, BAD = -2, STATE = -3, NOT = -5, MISSING = -11, NO_INDEX = -13, NEGATIVE = -14;
    private static final long NO = Long.MIN_VALUE;
    private static final Check check = new Check("ErrorsTest");

    /** A call, and the error that it has to report. */
    private record Refusal(String call, long error, ToLongFunction<CountedEquations> of) {
    }

    public static void main(String[] args) {
        seriesOrder();
        equationOrder();
        otherOrder();
        seriesUnchanged();
        equationUnchanged();
        keptUnchanged();
        textsUnchanged();
        listsUnchanged();
        asking();
        check.end();
    }

    private static Refusal call(String call, long error, ToLongFunction<CountedEquations> of) {
        return new Refusal(call, error, of);
    }

    // ---- the first error that is listed is the one that is reported

    /** Each call on an object of its own, so that no call depends on another one. */
    private static void first(String promise, String order, Consumer<CountedEquations> setup, Refusal... refusals) {
        check.test(promise, "Errors: the first one listed is reported: " + order, x -> {
            for (Refusal refusal : refusals) {
                CountedEquations y = new CountedEquations();
                setup.accept(y);
                check.due(refusal.call, refusal.of.applyAsLong(y), refusal.error);
            }
        });
    }

    private static void nothing(CountedEquations x) {
        check.due("count(0) of a new object", x.count(0), 101);
    }

    /** Series 0 starts at 99 with a 0, series 1 at -99; all others are missing. List 0 has no numbers. */
    private static void farStarts(CountedEquations x) {
        check.tells(x, 0, 99, 0, 1);
        check.tells(x, 1, -99, 0, 1);
        check.lists(x, 0);
    }

    private static void seriesOrder() {
        first("Promise 3", "NONE ahead of BAD", ErrorsTest::nothing,
            call("j(-1, 0)", NONE, x -> x.j(-1, 0)), call("j(6, 81)", NONE, x -> x.j(6, 81)));
        first("Promise 4", "NONE ahead of BAD, BAD ahead of MISSING and STATE", ErrorsTest::farStarts,
            call("tell(6, 0, 100)", NONE, x -> x.tell(6, 0, 100)), call("tell(0, 4, 100)", NONE, x -> x.tell(0, 4, 100)),
            call("tell(6, 1, 0)", NONE, x -> x.tell(6, 1, 0)), call("tell(6, 0, 0)", NONE, x -> x.tell(6, 0, 0)),
            call("tell(0, 1, 100)", BAD, x -> x.tell(0, 1, 100)), call("tell(0, 0, -100)", BAD, x -> x.tell(0, 0, -100)));
        first("Promise 5", "NONE ahead of MISSING", ErrorsTest::farStarts,
            call("sum(2, 6, 0)", NONE, x -> x.sum(2, 6, 0)), call("sum(6, 2, 0)", NONE, x -> x.sum(6, 2, 0)),
            call("sum(2, 2, 6)", NONE, x -> x.sum(2, 2, 6)), call("sum(2, 2, -1)", NONE, x -> x.sum(2, 2, -1)));
        first("Promise 6", "NONE ahead of MISSING, both ahead of STATE", ErrorsTest::farStarts,
            call("times(2, 6, 0)", NONE, x -> x.times(2, 6, 0)), call("times(6, 2, 0)", NONE, x -> x.times(6, 2, 0)),
            call("times(2, 2, 6)", NONE, x -> x.times(2, 2, 6)), call("times(0, 0, 6)", NONE, x -> x.times(0, 0, 6)),
            call("times(0, 2, 0)", MISSING, x -> x.times(0, 2, 0)), call("times(2, 0, 0)", MISSING, x -> x.times(2, 0, 0)));
        first("Promise 7", "NONE ahead of BAD, BAD ahead of MISSING and STATE", ErrorsTest::farStarts,
            call("stretch(6, 0, 0)", NONE, x -> x.stretch(6, 0, 0)), call("stretch(0, 10, 6)", NONE, x -> x.stretch(0, 10, 6)),
            call("stretch(2, 1, 6)", NONE, x -> x.stretch(2, 1, 6)), call("stretch(0, 2, 6)", NONE, x -> x.stretch(0, 2, 6)),
            call("stretch(2, 0, 0)", BAD, x -> x.stretch(2, 0, 0)), call("stretch(0, 10, 0)", BAD, x -> x.stretch(0, 10, 0)));
        first("Promise 8", "NONE ahead of MISSING and STATE", ErrorsTest::farStarts,
            call("over(2, 6)", NONE, x -> x.over(2, 6)), call("over(0, 6)", NONE, x -> x.over(0, 6)),
            call("over(6, 2)", NONE, x -> x.over(6, 2)), call("over(2, 0)", MISSING, x -> x.over(2, 0)));
        first("Promise 9", "NONE ahead of BAD, BAD ahead of MISSING and STATE", ErrorsTest::farStarts,
            call("power(6, 10, 0)", NONE, x -> x.power(6, 10, 0)), call("power(0, -1, 6)", NONE, x -> x.power(0, -1, 6)),
            call("power(2, 1, 6)", NONE, x -> x.power(2, 1, 6)), call("power(0, 2, 6)", NONE, x -> x.power(0, 2, 6)),
            call("power(2, 10, 0)", BAD, x -> x.power(2, 10, 0)), call("power(1, 10, 0)", BAD, x -> x.power(1, 10, 0)));
        first("Promise 10", "NONE ahead of MISSING", ErrorsTest::farStarts,
            call("of(2, 3)", NONE, x -> x.of(2, 3)), call("of(2, -1)", NONE, x -> x.of(2, -1)), call("of(2, 2)", MISSING, x -> x.of(2, 2)));
        first("Promise 11", "MISSING ahead of NOT", ErrorsTest::farStarts,
            call("coefficient(2, 99)", MISSING, x -> x.coefficient(2, 99)), call("coefficient(6, 99)", NONE, x -> x.coefficient(6, 99)));
    }

    /** X = Y = q, so that no symmetric polynomial of degree 1 vanishes; 0 is degenerate in the equation. */
    private static void hardEquation(CountedEquations x) {
        check.tells(x, 0, 1, 1, 0, 0);
        check.reads(x, "1x1y1", 1);
    }

    private static void equationOrder() {
        first("Promise 12", "NONE ahead of BAD, BAD ahead of MISSING and NOT", ErrorsTest::hardEquation,
            call("find(6, 5, 9, 2)", NONE, x -> x.find(6, 5, 9, 2)), call("find(5, -1, 0, 0)", NONE, x -> x.find(5, -1, 0, 0)),
            call("find(5, 6, 1, 0)", NONE, x -> x.find(5, 6, 1, 0)), call("find(5, 0, 0, 0)", BAD, x -> x.find(5, 0, 0, 0)),
            call("find(0, 5, 1, 2)", BAD, x -> x.find(0, 5, 1, 2)), call("find(0, 0, 1, -1)", BAD, x -> x.find(0, 0, 1, -1)),
            call("find(0, 5, 1, 1)", MISSING, x -> x.find(0, 5, 1, 1)));
        first("Promise 13", "NONE ahead of MISSING", ErrorsTest::nothing,
            call("equation(4)", NONE, x -> x.equation(4)), call("equation(-1)", NONE, x -> x.equation(-1)),
            call("equation(1)", MISSING, x -> x.equation(1)));
        first("Promise 14", "NONE for what is never there ahead of MISSING, MISSING ahead of NONE for the degree", ErrorsTest::nothing,
            call("term(9, 0)", NONE, x -> x.term(9, 0)), call("term(0, -1)", NONE, x -> x.term(0, -1)),
            call("term(8, 8)", MISSING, x -> x.term(8, 8)), call("term(2, 0)", MISSING, x -> x.term(2, 0)));
        first("Promise 15", "BAD ahead of MISSING", ErrorsTest::nothing,
            call("at(101, 0)", BAD, x -> x.at(101, 0)), call("at(0, -1)", BAD, x -> x.at(0, -1)));
        first("Promise 16", "NONE ahead of MISSING", ErrorsTest::nothing,
            call("vanishes(6, 0)", NONE, x -> x.vanishes(6, 0)), call("vanishes(0, 6)", NONE, x -> x.vanishes(0, 6)));
        first("Promise 17", "BAD ahead of MISSING", ErrorsTest::nothing,
            call("neighbour(101, 0)", BAD, x -> x.neighbour(101, 0)), call("neighbour(0, -2)", BAD, x -> x.neighbour(0, -2)));
        first("Promise 17", "BAD ahead of STATE, STATE ahead of NOT", ErrorsTest::hardEquation,
            call("neighbour(0, -2)", BAD, x -> x.neighbour(0, -2)), call("neighbour(101, 5)", BAD, x -> x.neighbour(101, 5)),
            call("neighbour(0, 5)", STATE, x -> x.neighbour(0, 5)), call("neighbour(1, 5)", NOT, x -> x.neighbour(1, 5)));
        first("Promise 18", "BAD ahead of MISSING", ErrorsTest::nothing,
            call("far(101, 0)", BAD, x -> x.far(101, 0)), call("far(0, 101)", BAD, x -> x.far(0, 101)));
        first("Promise 18", "BAD ahead of NOT", ErrorsTest::hardEquation,
            call("far(0, 101)", BAD, x -> x.far(0, 101)), call("far(-1, 5)", BAD, x -> x.far(-1, 5)), call("far(0, 5)", NOT, x -> x.far(0, 5)));
        first("Promise 19", "BAD ahead of MISSING", ErrorsTest::nothing,
            call("reach(101)", BAD, x -> x.reach(101)), call("reach(-1)", BAD, x -> x.reach(-1)));
        first("Promise 20", "NONE ahead of MISSING", ErrorsTest::nothing,
            call("values(4)", NONE, x -> x.values(4)), call("values(-1)", NONE, x -> x.values(-1)));
    }

    /** The equation is missing, but place 3 has the present modulus. */
    private static void keptWithoutEquation(CountedEquations x) {
        check.reads(x, "1x1", 1);
        check.due("keep(3)", x.keep(3), 1);
        check.due("prime(101)", x.prime(101), 101);
    }

    private static void otherOrder() {
        first("Promise 21", "NONE ahead of MISSING, MISSING ahead of STATE", ErrorsTest::keptWithoutEquation,
            call("keep(8)", NONE, x -> x.keep(8)), call("keep(-1)", NONE, x -> x.keep(-1)), call("keep(0)", MISSING, x -> x.keep(0)));
        first("Promise 21", "NONE ahead of STATE", x -> {
            keptWithoutEquation(x);
            check.reads(x, "1", 1);
        }, call("keep(8)", NONE, x -> x.keep(8)), call("keep(-1)", NONE, x -> x.keep(-1)), call("keep(0)", STATE, x -> x.keep(0)));
        first("Promise 22", "NONE ahead of MISSING", ErrorsTest::nothing,
            call("drop(8)", NONE, x -> x.drop(8)), call("drop(-1)", NONE, x -> x.drop(-1)), call("drop(7)", MISSING, x -> x.drop(7)));
        first("Promise 25", "BAD ahead of STATE", x -> check.feedAll(x, "1".repeat(100)),
            call("feed(128)", BAD, x -> x.feed(128)), call("feed(0)", BAD, x -> x.feed(0)), call("feed(127)", STATE, x -> x.feed(127)));
        first("Promise 30", "NONE ahead of BAD and -14", ErrorsTest::nothing,
            call("list(4, 81)", NONE, x -> x.list(4, 81)), call("list(-1, -1)", NONE, x -> x.list(-1, -1)));
        first("Promise 31", "NONE ahead of MISSING, MISSING ahead of -13", ErrorsTest::nothing,
            call("put(4, -1, 0)", NONE, x -> x.put(4, -1, 0)), call("put(0, -1, 0)", MISSING, x -> x.put(0, -1, 0)),
            call("put(0, 80, 0)", MISSING, x -> x.put(0, 80, 0)));
        first("Promise 33", "NONE ahead of MISSING", ErrorsTest::nothing,
            call("lay(4, 0)", NONE, x -> x.lay(4, 0)), call("lay(0, 6)", NONE, x -> x.lay(0, 6)), call("lay(0, 0)", MISSING, x -> x.lay(0, 0)));
        first("Promise 34", "NONE ahead of MISSING, MISSING ahead of NOT", ErrorsTest::farStarts,
            call("judge(4, 5)", NONE, x -> x.judge(4, 5)), call("judge(1, 6)", NONE, x -> x.judge(1, 6)),
            call("judge(0, 6)", NONE, x -> x.judge(0, 6)), call("judge(0, 5)", MISSING, x -> x.judge(0, 5)),
            call("judge(1, 0)", MISSING, x -> x.judge(1, 0)), call("judge(0, 0)", NOT, x -> x.judge(0, 0)));
    }

    // ---- a call that reports an error leaves the state unchanged

    /**
     * Something of everything: the image has other contents than there are now; series 3 and 5 and
     * list 2 are missing, list 1 has no numbers, the series 2 is 0, the value 0 is degenerate.
     */
    private static void busyWithoutTape(CountedEquations x) {
        x.prime(103);
        check.tells(x, 0, -2, 1, 2, 3);
        check.tells(x, 5, 4, 0, 7);
        check.reads(x, "3x1+7", 1);
        check.due("keep(2)", x.keep(2), 1);
        check.due("image()", x.image(), 2);
        x.prime(101);
        check.tells(x, 0, 60, 1, 2);
        check.tells(x, 1, -60, 0, 4, 5);
        check.tells(x, 2, 7, 0, 0);
        check.tells(x, 4, 1, 1, 0, 0);
        check.lists(x, 0, 5, -7);
        check.lists(x, 1);
        check.reads(x, "6x1y1+5x1", 1);
        check.due("keep(4)", x.keep(4), 2);
        check.due("write()", x.write(), 9);
    }

    private static void busy(CountedEquations x) {
        busyWithoutTape(x);
        check.feedAll(x, "8y1");
    }

    /** No equation, no image and no kept polynomial, but series, lists, a paper and a tape. */
    private static void bare(CountedEquations x) {
        check.reads(x, "4x1", 1);
        check.due("write()", x.write(), 3);
        x.prime(101);
        check.tells(x, 0, 60, 1, 2);
        check.feedAll(x, "8y1");
    }

    /** Two objects get the same; one of them gets the refused call, too. */
    private static void unchanged(Consumer<CountedEquations> setup, Refusal refusal) {
        CountedEquations touched = new CountedEquations();
        setup.accept(touched);
        check.due(refusal.call, refusal.of.applyAsLong(touched), refusal.error);
        CountedEquations untouched = new CountedEquations();
        setup.accept(untouched);
        String is = Inspection.of(touched);
        String was = Inspection.of(untouched);
        check.holds(refusal.call + " changes what was\n" + was + "into what is\n" + is, is.equals(was));
    }

    private static void unchanged(String promise, String errors, Consumer<CountedEquations> setup, Refusal... refusals) {
        check.test(promise, "Errors: a call that reports an error leaves the state unchanged: " + errors, x -> {
            for (Refusal refusal : refusals) {
                unchanged(setup, refusal);
            }
        });
    }

    private static void seriesUnchanged() {
        unchanged("Promise 2", "prime, BAD", ErrorsTest::busy,
            call("prime(4)", BAD, x -> x.prime(4)), call("prime(200)", BAD, x -> x.prime(200)), call("prime(91)", BAD, x -> x.prime(91)));
        unchanged("Promise 3", "j, NONE and BAD", ErrorsTest::busy,
            call("j(6, 3)", NONE, x -> x.j(6, 3)), call("j(0, 0)", BAD, x -> x.j(0, 0)), call("j(3, 81)", BAD, x -> x.j(3, 81)));
        unchanged("Promise 4", "tell, NONE, BAD, MISSING and STATE", ErrorsTest::busy,
            call("tell(6, 0, 0)", NONE, x -> x.tell(6, 0, 0)), call("tell(0, 4, 0)", NONE, x -> x.tell(0, 4, 0)),
            call("tell(0, 0, 100)", BAD, x -> x.tell(0, 0, 100)), call("tell(3, 0, -100)", BAD, x -> x.tell(3, 0, -100)),
            call("tell(0, 2, 0)", MISSING, x -> x.tell(0, 2, 0)), call("tell(0, 1, 0)", STATE, x -> x.tell(0, 1, 0)),
            call("tell(3, 1, 0)", STATE, x -> x.tell(3, 1, 0)));
        unchanged("Promise 5", "sum, NONE and MISSING", ErrorsTest::busy,
            call("sum(6, 0, 1)", NONE, x -> x.sum(6, 0, 1)), call("sum(0, 6, 1)", NONE, x -> x.sum(0, 6, 1)),
            call("sum(0, 1, 6)", NONE, x -> x.sum(0, 1, 6)), call("sum(3, 0, 1)", MISSING, x -> x.sum(3, 0, 1)),
            call("sum(0, 3, 1)", MISSING, x -> x.sum(0, 3, 1)), call("sum(0, 3, 5)", MISSING, x -> x.sum(0, 3, 5)));
        unchanged("Promise 6", "times, NONE, MISSING and STATE", ErrorsTest::busy,
            call("times(6, 0, 1)", NONE, x -> x.times(6, 0, 1)), call("times(0, 1, 6)", NONE, x -> x.times(0, 1, 6)),
            call("times(3, 0, 1)", MISSING, x -> x.times(3, 0, 1)), call("times(0, 3, 5)", MISSING, x -> x.times(0, 3, 5)),
            call("times(0, 0, 0)", STATE, x -> x.times(0, 0, 0)), call("times(1, 1, 4)", STATE, x -> x.times(1, 1, 4)),
            call("times(0, 0, 3)", STATE, x -> x.times(0, 0, 3)));
        unchanged("Promise 7", "stretch, NONE, BAD, MISSING and STATE", ErrorsTest::busy,
            call("stretch(6, 1, 0)", NONE, x -> x.stretch(6, 1, 0)), call("stretch(0, 1, 6)", NONE, x -> x.stretch(0, 1, 6)),
            call("stretch(4, 0, 4)", BAD, x -> x.stretch(4, 0, 4)), call("stretch(4, 10, 3)", BAD, x -> x.stretch(4, 10, 3)),
            call("stretch(3, 1, 0)", MISSING, x -> x.stretch(3, 1, 0)), call("stretch(0, 2, 0)", STATE, x -> x.stretch(0, 2, 0)),
            call("stretch(1, 2, 4)", STATE, x -> x.stretch(1, 2, 4)));
        unchanged("Promise 8", "over, NONE, MISSING and STATE", ErrorsTest::busy,
            call("over(6, 0)", NONE, x -> x.over(6, 0)), call("over(0, 6)", NONE, x -> x.over(0, 6)),
            call("over(3, 0)", MISSING, x -> x.over(3, 0)), call("over(1, 0)", STATE, x -> x.over(1, 0)),
            call("over(1, 1)", STATE, x -> x.over(1, 1)), call("over(2, 3)", STATE, x -> x.over(2, 3)));
        unchanged("Promise 9", "power, NONE, BAD, MISSING and STATE", ErrorsTest::busy,
            call("power(6, 1, 0)", NONE, x -> x.power(6, 1, 0)), call("power(0, 1, 6)", NONE, x -> x.power(0, 1, 6)),
            call("power(4, 10, 4)", BAD, x -> x.power(4, 10, 4)), call("power(4, -1, 3)", BAD, x -> x.power(4, -1, 3)),
            call("power(3, 0, 0)", MISSING, x -> x.power(3, 0, 0)), call("power(0, 2, 0)", STATE, x -> x.power(0, 2, 0)),
            call("power(1, 2, 4)", STATE, x -> x.power(1, 2, 4)));
        unchanged("Promise 10", "of, NONE, MISSING and NOT", ErrorsTest::busy,
            call("of(6, 0)", NONE, x -> x.of(6, 0)), call("of(0, 3)", NONE, x -> x.of(0, 3)), call("of(3, 0)", MISSING, x -> x.of(3, 0)),
            call("of(2, 2)", NOT, x -> x.of(2, 2)));
        unchanged("Promise 11", "coefficient, NONE, MISSING and NOT", ErrorsTest::busy,
            call("coefficient(6, 0)", NONE, x -> x.coefficient(6, 0)), call("coefficient(3, 0)", MISSING, x -> x.coefficient(3, 0)),
            call("coefficient(0, 62)", NOT, x -> x.coefficient(0, 62)));
    }

    private static void equationUnchanged() {
        unchanged("Promise 12", "find, NONE, BAD, MISSING and NOT", ErrorsTest::busy,
            call("find(6, 0, 1, 0)", NONE, x -> x.find(6, 0, 1, 0)), call("find(0, 6, 1, 0)", NONE, x -> x.find(0, 6, 1, 0)),
            call("find(4, 4, 0, 0)", BAD, x -> x.find(4, 4, 0, 0)), call("find(4, 4, 9, 0)", BAD, x -> x.find(4, 4, 9, 0)),
            call("find(4, 4, 1, 2)", BAD, x -> x.find(4, 4, 1, 2)), call("find(3, 4, 1, 0)", MISSING, x -> x.find(3, 4, 1, 0)),
            call("find(4, 3, 1, 0)", MISSING, x -> x.find(4, 3, 1, 0)), call("find(4, 4, 1, 1)", NOT, x -> x.find(4, 4, 1, 1)));
        unchanged("Promise 12", "find, NOT without an equation", x -> {
            bare(x);
            check.tells(x, 4, 1, 1, 0, 0);
        }, call("find(4, 4, 1, 1)", NOT, x -> x.find(4, 4, 1, 1)));
        unchanged("Promise 13", "equation, NONE", ErrorsTest::busy, call("equation(4)", NONE, x -> x.equation(4)));
        unchanged("Promise 13", "equation, MISSING", ErrorsTest::bare, call("equation(0)", MISSING, x -> x.equation(0)));
        unchanged("Promise 13", "equation, NOT", x -> {
            busyWithoutTape(x);
            check.reads(x, "0x2", 2);
        }, call("equation(1)", NOT, x -> x.equation(1)));
        unchanged("Promise 14", "term, NONE", ErrorsTest::busy,
            call("term(9, 0)", NONE, x -> x.term(9, 0)), call("term(0, 2)", NONE, x -> x.term(0, 2)));
        unchanged("Promise 15", "at, BAD", ErrorsTest::busy, call("at(101, 0)", BAD, x -> x.at(101, 0)), call("at(0, -1)", BAD, x -> x.at(0, -1)));
        unchanged("Promise 16", "vanishes, NONE and MISSING", ErrorsTest::busy,
            call("vanishes(6, 0)", NONE, x -> x.vanishes(6, 0)), call("vanishes(0, 3)", MISSING, x -> x.vanishes(0, 3)));
        unchanged("Promise 17", "neighbour, BAD, STATE and NOT", ErrorsTest::busy,
            call("neighbour(101, 0)", BAD, x -> x.neighbour(101, 0)), call("neighbour(1, -2)", BAD, x -> x.neighbour(1, -2)),
            call("neighbour(0, 0)", STATE, x -> x.neighbour(0, 0)), call("neighbour(1, 1)", NOT, x -> x.neighbour(1, 1)));
        unchanged("Promise 18", "far, BAD and NOT", ErrorsTest::busy,
            call("far(101, 0)", BAD, x -> x.far(101, 0)), call("far(0, 1)", NOT, x -> x.far(0, 1)));
        unchanged("Promise 19", "reach, BAD", ErrorsTest::busy, call("reach(101)", BAD, x -> x.reach(101)));
        unchanged("Promise 20", "values, NONE", ErrorsTest::busy, call("values(4)", NONE, x -> x.values(4)));
        unchanged("Promises 14 to 20", "MISSING", ErrorsTest::bare,
            call("term(0, 0)", MISSING, x -> x.term(0, 0)), call("at(0, 0)", MISSING, x -> x.at(0, 0)),
            call("vanishes(0, 0)", MISSING, x -> x.vanishes(0, 0)), call("neighbour(0, 0)", MISSING, x -> x.neighbour(0, 0)),
            call("far(0, 0)", MISSING, x -> x.far(0, 0)), call("reach(0)", MISSING, x -> x.reach(0)),
            call("values(0)", MISSING, x -> x.values(0)));
    }

    private static void keptUnchanged() {
        unchanged("Promise 21", "keep, NONE and STATE", ErrorsTest::busy,
            call("keep(8)", NONE, x -> x.keep(8)), call("keep(-1)", NONE, x -> x.keep(-1)),
            call("keep(0)", STATE, x -> x.keep(0)), call("keep(2)", STATE, x -> x.keep(2)));
        unchanged("Promise 21", "keep, MISSING", ErrorsTest::bare, call("keep(0)", MISSING, x -> x.keep(0)));
        unchanged("Promise 22", "drop, NONE and MISSING", ErrorsTest::busy,
            call("drop(8)", NONE, x -> x.drop(8)), call("drop(0)", MISSING, x -> x.drop(0)), call("drop(7)", MISSING, x -> x.drop(7)));
        unchanged("Promise 23", "joined, NO", ErrorsTest::busy,
            call("joined(2, 0)", NO, x -> x.joined(2, 0)), call("joined(0, -1)", NO, x -> x.joined(0, -1)));
        unchanged("Promises 23 and 24", "joined and whole, NO", ErrorsTest::bare,
            call("joined(0, 0)", NO, x -> x.joined(0, 0)), call("whole()", NO, x -> x.whole()));
    }

    private static long feedAndRun(CountedEquations x, String text) {
        check.feedAll(x, text);
        return x.deeds();
    }

    private static long feedAndRead(CountedEquations x, String text) {
        check.feedAll(x, text);
        return x.read();
    }

    private static void textsUnchanged() {
        unchanged("Promise 25", "feed, BAD", ErrorsTest::busy, call("feed(0)", BAD, x -> x.feed(0)), call("feed(128)", BAD, x -> x.feed(128)));
        unchanged("Promise 25", "feed, STATE: a full tape keeps its 100 bytes", x -> {
            bare(x);
            check.feedAll(x, "+1".repeat(48) + "2");
        }, call("feed(49)", STATE, x -> x.feed(49)), call("feed(43)", STATE, x -> x.feed(43)));
        List<Refusal> programs = new ArrayList<>();
        for (String text : new String[] {"", "prime 7;x", "prime 7;j 0 1;", "keep 0;drop 4", "j 0 1;j 3 81;j 5", "over 4 4;find 0 0 1 0;keep 2  "}) {
            int error = new int[] {0, 8, 14, 7, 16, 28}[programs.size()];
            programs.add(call("deeds() of '" + text + "'", -100 - error, x -> feedAndRun(x, text)));
        }
        unchanged("Promise 26", "a syntax error of deeds empties the tape, and changes nothing else", ErrorsTest::busyWithoutTape,
            programs.toArray(new Refusal[0]));
        List<Refusal> polynomials = new ArrayList<>();
        for (String text : new String[] {"", "5x1+z", "5x1+6y1+", "7x8y8+12345", "1x1y", "prime 7"}) {
            int error = new int[] {0, 4, 8, 9, 4, 0}[polynomials.size()];
            polynomials.add(call("read() of '" + text + "'", -100 - error, x -> feedAndRead(x, text)));
        }
        unchanged("Promise 27", "a syntax error of read empties the tape, and changes nothing else", ErrorsTest::busyWithoutTape,
            polynomials.toArray(new Refusal[0]));
        unchanged("Promise 28", "write, MISSING", ErrorsTest::bare, call("write()", MISSING, x -> x.write()));
        unchanged("Promise 29", "paper, NONE", ErrorsTest::busy, call("paper(9)", NONE, x -> x.paper(9)), call("paper(-1)", NONE, x -> x.paper(-1)));
        check.test("Errors", "the tape is empty after a syntax error, of deeds and of read, and takes 100 bytes again", x -> {
            check.runs(x, "j 0 1;x", -106);
            check.reads(x, "1x", -102);
            check.feedAll(x, "1".repeat(100));
            check.due("feed", x.feed('1'), STATE);
            check.due("read()", x.read(), -103);
            check.due("count(3)", x.count(3), 0);
            check.runs(x, "j 0 1", 1);
        });
        check.test("Errors", "the tape stays after all other errors: a program goes on where it was", x -> {
            check.feedAll(x, "j 0 ");
            check.due("j(0, 81)", x.j(0, 81), BAD);
            check.due("write()", x.write(), MISSING);
            check.due("feed(0)", x.feed(0), BAD);
            check.due("back()", x.back(), STATE);
            check.feedAll(x, "3");
            check.due("deeds()", x.deeds(), 1);
            check.due("of(0, 1)", x.of(0, 1), 3);
        });
    }

    private static void listsUnchanged() {
        unchanged("Promise 30", "list, NONE, BAD and -14", ErrorsTest::busy,
            call("list(4, 1)", NONE, x -> x.list(4, 1)), call("list(0, 81)", BAD, x -> x.list(0, 81)), call("list(2, 81)", BAD, x -> x.list(2, 81)),
            call("list(0, -1)", NEGATIVE, x -> x.list(0, -1)), call("list(2, -1)", NEGATIVE, x -> x.list(2, -1)));
        unchanged("Promise 31", "put, NONE, MISSING and -13", ErrorsTest::busy,
            call("put(4, 0, 9)", NONE, x -> x.put(4, 0, 9)), call("put(2, 0, 9)", MISSING, x -> x.put(2, 0, 9)),
            call("put(0, 2, 9)", NO_INDEX, x -> x.put(0, 2, 9)), call("put(1, 0, 9)", NO_INDEX, x -> x.put(1, 0, 9)),
            call("put(0, -1, 9)", NO_INDEX, x -> x.put(0, -1, 9)));
        unchanged("Promise 32", "get, NO", ErrorsTest::busy, call("get(4, 0)", NO, x -> x.get(4, 0)), call("get(2, 0)", NO, x -> x.get(2, 0)),
            call("get(0, 2)", NO, x -> x.get(0, 2)));
        unchanged("Promise 33", "lay, NONE and MISSING", ErrorsTest::busy,
            call("lay(4, 0)", NONE, x -> x.lay(4, 0)), call("lay(0, 6)", NONE, x -> x.lay(0, 6)),
            call("lay(2, 0)", MISSING, x -> x.lay(2, 0)), call("lay(0, 3)", MISSING, x -> x.lay(0, 3)));
        unchanged("Promise 34", "judge, NONE, MISSING and NOT", ErrorsTest::busy,
            call("judge(4, 0)", NONE, x -> x.judge(4, 0)), call("judge(0, 6)", NONE, x -> x.judge(0, 6)),
            call("judge(2, 0)", MISSING, x -> x.judge(2, 0)), call("judge(0, 3)", MISSING, x -> x.judge(0, 3)),
            call("judge(1, 0)", NOT, x -> x.judge(1, 0)));
        unchanged("Promise 36", "back, STATE", ErrorsTest::bare, call("back()", STATE, x -> x.back()));
        unchanged("Promise 37", "count, BAD", ErrorsTest::busy, call("count(5)", BAD, x -> x.count(5)), call("count(-1)", BAD, x -> x.count(-1)));
    }

    /** Nothing is promised beyond the state changes that the document describes. */
    private static void asking() {
        unchanged("Not promised", "calls that only ask change nothing, either", ErrorsTest::busy,
            call("of(0, 0)", 1060, x -> x.of(0, 0)), call("coefficient(0, 61)", 2, x -> x.coefficient(0, 61)),
            call("equation(1)", 11, x -> x.equation(1)), call("term(1, 0)", 5, x -> x.term(1, 0)), call("at(1, 1)", 11, x -> x.at(1, 1)),
            call("vanishes(4, 4)", 0, x -> x.vanishes(4, 4)), call("neighbour(1, -1)", 1, x -> x.neighbour(1, -1)),
            call("far(1, 1)", 0, x -> x.far(1, 1)), call("reach(0)", 1, x -> x.reach(0)), call("values(1)", 1, x -> x.values(1)),
            call("whole()", 10403, x -> x.whole()), call("paper(0)", '6', x -> x.paper(0)), call("get(0, 1)", -7, x -> x.get(0, 1)),
            call("judge(0, 0)", 0, x -> x.judge(0, 0)), call("count(3)", 3, x -> x.count(3)),
            call("joined(0, 1)", 0, x -> x.joined(0, 1)));
    }
}
