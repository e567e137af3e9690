/**
 * An object of the class for one test: it answers 512 calls at most, for what later calls answer
 * is free and no test may lean on it.
 */
final class Stone {
    static final int NONE = -1;
    static final int WALKER = 0;
    static final int PIOUS = 1;
    static final int SINGER = 2;
    static final int BISHOP = 3;
    static final int CHILD = 4;
    static final int DEAF = 5;
    static final int CLERK = 6;

    static final int SIGH = 0;
    static final int PRAISE = 1;
    static final int HINT = 2;
    static final int ASKING = 3;
    static final int COUGH = 4;
    static final int LIGHT = 5;

    private static final int MOST_CALLS = 512;
    private final WhoComplainsCarries x = new WhoComplainsCarries();
    private int calls = 0;

    private WhoComplainsCarries asked() {
        if (!hasCalls(1)) {
            throw new IllegalStateException("a test asks one object more than 512 times");
        }
        calls++;
        return x;
    }

    boolean hasCalls(int n) {
        return calls + n <= MOST_CALLS;
    }

    int callsLeft() {
        return MOST_CALLS - calls;
    }

    // ---- what many tests put on SHELVES ----

    /** The SHELF holds a new ROW (of bytes) of the letters. */
    void text(int s, String letters) {
        row(s, 0, letters.length());
        for (int i = 0; i < letters.length(); i++) {
            set(s, i, letters.charAt(i));
        }
    }

    /** The SHELF holds a new ROW (of ints) of the numbers. */
    void numbers(int s, int... told) {
        row(s, 2, told.length);
        for (int i = 0; i < told.length; i++) {
            set(s, i, told[i]);
        }
    }

    // ---- the document's face ----

    int row(int s, int sort, int n) {
        return asked().row(s, sort, n);
    }

    int set(int s, int i, long v) {
        return asked().set(s, i, v);
    }

    int copy(int p, int q, int i, int j, int n) {
        return asked().copy(p, q, i, j, n);
    }

    long element(int s, int i) {
        return asked().element(s, i);
    }

    int show(int s, int person) {
        return asked().show(s, person);
    }

    int holds(int s) {
        return asked().holds(s);
    }

    int says(int s, int kind) {
        return asked().says(s, kind);
    }

    int person(int kind, int a, int strength, int patience) {
        return asked().person(kind, a, strength, patience);
    }

    int ask(int what, int v) {
        return asked().ask(what, v);
    }

    int tire(int person, int v) {
        return asked().tire(person, v);
    }

    int give(int person) {
        return asked().give(person);
    }

    int personOf(int person, int what) {
        return asked().personOf(person, what);
    }

    int vow(int s) {
        return asked().vow(s);
    }

    int fault() {
        return asked().fault();
    }

    int sighs(int what) {
        return asked().sighs(what);
    }

    int ready(int person) {
        return asked().ready(person);
    }

    int ahead(int n, int what) {
        return asked().ahead(n, what);
    }

    int tired(int person, int n) {
        return asked().tired(person, n);
    }

    int over() {
        return asked().over();
    }

    int alone(int person, int what) {
        return asked().alone(person, what);
    }

    int relay(int k, int m, int i) {
        return asked().relay(k, m, i);
    }

    int cases(int s, int n, int what) {
        return asked().cases(s, n, what);
    }

    int clash(int s, int n) {
        return asked().clash(s, n);
    }

    int borne(int s, int n) {
        return asked().borne(s, n);
    }

    int without() {
        return asked().without();
    }

    int weights(int t, int what) {
        return asked().weights(t, what);
    }

    int praise(int t) {
        return asked().praise(t);
    }

    int judge(int s, int n) {
        return asked().judge(s, n);
    }

    int behind(int s, int n, int what) {
        return asked().behind(s, n, what);
    }

    int done(int s, int n) {
        return asked().done(s, n);
    }

    int say(int person, int sort) {
        return asked().say(person, sort);
    }

    int steps(int n) {
        return asked().steps(n);
    }

    int days(int n) {
        return asked().days(n);
    }

    int seed(int v) {
        return asked().seed(v);
    }

    int act(int person, int move, int x) {
        return asked().act(person, move, x);
    }

    int trace(int i) {
        return asked().trace(i);
    }

    int image() {
        return asked().image();
    }

    int restore() {
        return asked().restore();
    }

    int status(int what) {
        return asked().status(what);
    }
}
