/**
 * LevelEquations with its calls counted: the document promises the answers of 512 calls, so a test
 * that makes more of them would ask for what is free. The tests make their objects with this class.
 */
final class CountedEquations {
    static final int MOST = 512;
    private final LevelEquations equations = new LevelEquations();
    private int calls;

    /** How many calls the object still answers. */
    int left() {
        return MOST - calls;
    }

    private LevelEquations counted() {
        if (calls == MOST) {
            throw new IllegalStateException("a test makes more than " + MOST + " calls on one object");
        }
        calls++;
        return equations;
    }

    int prime(int p) {
        return counted().prime(p);
    }

    int j(int series, int n) {
        return counted().j(series, n);
    }

    int tell(int series, int list, int start) {
        return counted().tell(series, list, start);
    }

    int sum(int a, int b, int to) {
        return counted().sum(a, b, to);
    }

    int times(int a, int b, int to) {
        return counted().times(a, b, to);
    }

    int stretch(int a, int m, int to) {
        return counted().stretch(a, m, to);
    }

    int over(int a, int to) {
        return counted().over(a, to);
    }

    int power(int a, int n, int to) {
        return counted().power(a, n, to);
    }

    int of(int series, int what) {
        return counted().of(series, what);
    }

    int coefficient(int series, int e) {
        return counted().coefficient(series, e);
    }

    int find(int a, int b, int d, int way) {
        return counted().find(a, b, d, way);
    }

    int equation(int what) {
        return counted().equation(what);
    }

    int term(int i, int k) {
        return counted().term(i, k);
    }

    int at(int v, int w) {
        return counted().at(v, w);
    }

    int vanishes(int a, int b) {
        return counted().vanishes(a, b);
    }

    int neighbour(int v, int k) {
        return counted().neighbour(v, k);
    }

    int far(int v, int w) {
        return counted().far(v, w);
    }

    int reach(int v) {
        return counted().reach(v);
    }

    int values(int what) {
        return counted().values(what);
    }

    int keep(int k) {
        return counted().keep(k);
    }

    int drop(int k) {
        return counted().drop(k);
    }

    long joined(int i, int k) {
        return counted().joined(i, k);
    }

    long whole() {
        return counted().whole();
    }

    int feed(int letter) {
        return counted().feed(letter);
    }

    int deeds() {
        return counted().deeds();
    }

    int read() {
        return counted().read();
    }

    int write() {
        return counted().write();
    }

    int paper(int i) {
        return counted().paper(i);
    }

    int list(int list, int n) {
        return counted().list(list, n);
    }

    int put(int list, int i, int v) {
        return counted().put(list, i, v);
    }

    long get(int list, int i) {
        return counted().get(list, i);
    }

    int lay(int list, int series) {
        return counted().lay(list, series);
    }

    int judge(int list, int series) {
        return counted().judge(list, series);
    }

    int image() {
        return counted().image();
    }

    int back() {
        return counted().back();
    }

    int count(int what) {
        return counted().count(what);
    }
}
