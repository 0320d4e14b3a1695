/** Promises 30 to 37: lists, the image and the counts. */
public final class ListTest {
    private static final int NONE = -1, BAD = -2, STATE = -3, NOT = -5, MISSING = -11;
    private static final long NO = Long.MIN_VALUE;
    private static final int[] NO_LISTS = {-1, 4, 5, Integer.MIN_VALUE, Integer.MAX_VALUE};
    private static final Check check = new Check("ListTest");

    public static void main(String[] args) {
        list();
        put();
        get();
        lay();
        judge();
        image();
        back();
        count();
        check.end();
    }

    private static void list() {
        check.promise(30, "list");
        CountedEquations x = new CountedEquations();
        check.due("list(0, 80)", x.list(0, 80), 1);
        check.due("get(0, 79)", x.get(0, 79), 0);
        check.due("get(0, 80)", x.get(0, 80), NO);
        check.due("put(0, 2, 9)", x.put(0, 2, 9), 1);
        check.due("put(0, 79, 8)", x.put(0, 79, 8), 1);
        for (int n : new int[] {81, Integer.MAX_VALUE}) {
            check.due("list(0, " + n + ")", x.list(0, n), BAD);
        }
        for (int n : new int[] {-1, -80, Integer.MIN_VALUE}) {
            check.due("list(0, " + n + ")", x.list(0, n), -14);
        }
        check.due("get(0, 79)", x.get(0, 79), 8);
        check.due("list(0, 3)", x.list(0, 3), 1);
        check.due("get(0, 2)", x.get(0, 2), 0);
        check.due("get(0, 3)", x.get(0, 3), NO);
        check.due("list(0, 80)", x.list(0, 80), 1);
        check.due("get(0, 79)", x.get(0, 79), 0);
        check.due("list(3, 0)", x.list(3, 0), 1);
        check.due("put(3, 0, 1)", x.put(3, 0, 1), -13);
        check.due("put(2, 0, 1)", x.put(2, 0, 1), MISSING);
        for (int l : NO_LISTS) {
            check.due("list(" + l + ", 3)", x.list(l, 3), NONE);
            check.due("list(" + l + ", 81)", x.list(l, 81), NONE);
            check.due("list(" + l + ", -1)", x.list(l, -1), NONE);
        }
    }

    private static void put() {
        check.promise(31, "put");
        CountedEquations x = new CountedEquations();
        check.due("put(1, 0, 5)", x.put(1, 0, 5), MISSING);
        check.due("put(1, -1, 5)", x.put(1, -1, 5), MISSING);
        check.due("list(1, 3)", x.list(1, 3), 1);
        check.due("put(1, 0, MIN)", x.put(1, 0, Integer.MIN_VALUE), 1);
        check.due("put(1, 1, MAX)", x.put(1, 1, Integer.MAX_VALUE), 1);
        check.due("put(1, 2, -7)", x.put(1, 2, -7), 1);
        check.due("get(1, 0)", x.get(1, 0), Integer.MIN_VALUE);
        check.due("get(1, 1)", x.get(1, 1), Integer.MAX_VALUE);
        check.due("get(1, 2)", x.get(1, 2), -7);
        for (int i : new int[] {-1, 3, 79, 80, Integer.MIN_VALUE, Integer.MAX_VALUE}) {
            check.due("put(1, " + i + ", 5)", x.put(1, i, 5), -13);
        }
        for (int l : NO_LISTS) {
            check.due("put(" + l + ", 0, 5)", x.put(l, 0, 5), NONE);
        }
        check.due("put(1, 2, 4)", x.put(1, 2, 4), 1);
        check.due("get(1, 2)", x.get(1, 2), 4);
    }

    private static void get() {
        check.promise(32, "get");
        CountedEquations x = new CountedEquations();
        check.due("get(0, 0)", x.get(0, 0), NO);
        check.due("get(0, -1)", x.get(0, -1), NO);
        check.lists(x, 0, 4, 5);
        check.lists(x, 1, 6);
        check.due("get(0, 0)", x.get(0, 0), 4);
        check.due("get(0, 1)", x.get(0, 1), 5);
        check.due("get(1, 0)", x.get(1, 0), 6);
        check.due("get(1, 1)", x.get(1, 1), NO);
        for (int i : new int[] {-1, 2, 80, Integer.MIN_VALUE, Integer.MAX_VALUE}) {
            check.due("get(0, " + i + ")", x.get(0, i), NO);
        }
        for (int l : NO_LISTS) {
            check.due("get(" + l + ", 0)", x.get(l, 0), NO);
        }
    }

    private static void lay() {
        check.promise(33, "lay");
        CountedEquations x = new CountedEquations();
        check.tells(x, 0, -5, 1, -2, 103);
        check.due("lay(0, 0)", x.lay(0, 0), MISSING);
        check.lists(x, 0, 70, 71, 72, 73);
        check.due("lay(0, 1)", x.lay(0, 1), MISSING);
        check.due("lay(0, 0)", x.lay(0, 0), 3);
        check.due("get(0, 0)", x.get(0, 0), 1);
        check.due("get(0, 1)", x.get(0, 1), 99);
        check.due("get(0, 2)", x.get(0, 2), 2);
        check.due("get(0, 3)", x.get(0, 3), 73);
        check.lists(x, 1, 70, 71);
        check.due("lay(1, 0)", x.lay(1, 0), 2);
        check.due("get(1, 1)", x.get(1, 1), 99);
        check.due("get(1, 2)", x.get(1, 2), NO);
        check.due("list(2, 0)", x.list(2, 0), 1);
        check.due("lay(2, 0)", x.lay(2, 0), 0);
        for (int l : NO_LISTS) {
            check.due("lay(" + l + ", 1)", x.lay(l, 1), NONE);
        }
        for (int s : new int[] {-1, 6, Integer.MIN_VALUE, Integer.MAX_VALUE}) {
            check.due("lay(3, " + s + ")", x.lay(3, s), NONE);
        }
    }

    private static void judge() {
        check.promise(34, "judge");
        CountedEquations x = new CountedEquations();
        check.tells(x, 0, -5, 1, -2, 103);
        check.due("judge(0, 0)", x.judge(0, 0), MISSING);
        check.lists(x, 0, 1, 99, 2);
        check.due("judge(0, 1)", x.judge(0, 1), MISSING);
        check.due("judge(0, 0)", x.judge(0, 0), NOT);
        check.lists(x, 0, 1, 99, 2, 0);
        check.due("judge(0, 0) of a longer list", x.judge(0, 0), 3);
        check.lists(x, 0, 1, 99);
        check.due("judge(0, 0) of a shorter list", x.judge(0, 0), NOT);
        check.lists(x, 0);
        check.due("judge(0, 0) of an empty list", x.judge(0, 0), NOT);
        check.lists(x, 0, 1, -2, 3);
        check.due("numbers are compared as they are", x.judge(0, 0), 1);
        check.lists(x, 0, 102, 99, 2);
        check.due("numbers are compared as they are", x.judge(0, 0), 0);
        check.lists(x, 0, 1, 99, 1);
        check.due("judge(0, 0)", x.judge(0, 0), 2);
        for (int l : NO_LISTS) {
            check.due("judge(" + l + ", 1)", x.judge(l, 1), NONE);
        }
        for (int s : new int[] {-1, 6, Integer.MIN_VALUE, Integer.MAX_VALUE}) {
            check.due("judge(2, " + s + ")", x.judge(2, s), NONE);
        }
    }

    private static void image() {
        check.promise(35, "image");
        CountedEquations x = new CountedEquations();
        check.due("image()", x.image(), 0);
        x.j(0, 3);
        check.due("image()", x.image(), 1);
        x.j(5, 3);
        x.j(0, 4);
        check.due("image()", x.image(), 2);
        x.j(5, 30);
        x.j(3, 1);
        check.due("back()", x.back(), 2);
        check.due("of(0, 1)", x.of(0, 1), 4);
        check.due("of(5, 1)", x.of(5, 1), 3);
        check.due("of(3, 1)", x.of(3, 1), MISSING);
    }

    private static void back() {
        check.promise(36, "back");
        CountedEquations x = new CountedEquations();
        check.due("back()", x.back(), STATE);
        x.prime(7);
        check.tells(x, 2, -3, 1, 2, 3);
        check.reads(x, "6x1y1+2", 1);
        check.due("keep(4)", x.keep(4), 1);
        check.reads(x, "5x2+3", 2);
        check.writes(x, "5x2+3");
        check.lists(x, 0, 7, 8);
        check.feedAll(x, "12");
        check.due("image()", x.image(), 1);
        x.prime(11);
        x.j(1, 9);
        x.j(2, 9);
        check.due("drop(4)", x.drop(4), 7);
        check.feedAll(x, "3x1");
        check.due("read()", x.read(), 1);
        check.due("keep(4)", x.keep(4), 1);
        x.prime(13);
        check.reads(x, "2x1", 1);
        check.due("keep(5)", x.keep(5), 2);
        check.writes(x, "2x1");
        check.lists(x, 0, 9);
        check.feedAll(x, "4");
        for (int times = 0; times < 2; times++) {
            check.due("back()", x.back(), 1);
            check.due("count(0)", x.count(0), 7);
            check.holdsSeries(x, 2, -3, 1, 2, 3);
            check.due("of(1, 0)", x.of(1, 0), MISSING);
            check.due("equation(0)", x.equation(0), 2);
            check.due("term(2, 0)", x.term(2, 0), 5);
            check.due("term(0, 0)", x.term(0, 0), 3);
            check.due("count(2)", x.count(2), 1);
            check.due("joined(1, 1)", x.joined(1, 1), -1);
            check.due("joined(0, 0)", x.joined(0, 0), 2);
            check.due("drop(5)", x.drop(5), MISSING);
            check.due("the tape stays", x.count(3), 1);
            check.due("the paper stays", x.paper(0), '2');
            check.due("the lists stay", x.get(0, 0), 9);
            check.due("the lists stay", x.get(0, 1), NO);
            // What is done now must not change the image.
            check.due("drop(4)", x.drop(4), 7);
            check.tells(x, 2, 0, 6);
            check.lists(x, 0, 9);
            x.prime(13);
        }
        CountedEquations y = new CountedEquations();
        check.due("image()", y.image(), 0);
        y.j(0, 1);
        check.reads(y, "1", 1);
        y.keep(0);
        check.due("back()", y.back(), 0);
        check.due("the equation is missing again", y.equation(0), MISSING);
        check.due("the place is missing again", y.drop(0), MISSING);
        check.due("the series is missing again", y.of(0, 0), MISSING);
    }

    private static void count() {
        check.promise(37, "count");
        CountedEquations x = new CountedEquations();
        x.prime(199);
        for (int s = 0; s < 6; s++) {
            check.due("count(1)", x.count(1), s);
            x.j(s, 1);
            x.j(s, 2);
        }
        check.reads(x, "123x1+4", 1);
        check.due("keep(2)", x.keep(2), 1);
        x.write();
        check.feedAll(x, "abc");
        check.due("count(0)", x.count(0), 199);
        check.due("count(1)", x.count(1), 6);
        check.due("count(2)", x.count(2), 1);
        check.due("count(3)", x.count(3), 3);
        check.due("count(4)", x.count(4), 7);
        for (int what : new int[] {-1, 5, Integer.MIN_VALUE, Integer.MAX_VALUE}) {
            check.due("count(" + what + ")", x.count(what), BAD);
        }
    }
}
