/** Promises 1 to 8: a new object, and what SHELVES hold. */
public final class ShelfPromises {
    private static final Checks C = new Checks();

    public static void main(String[] args) {
        promise1();
        promise2();
        promise3();
        promise4();
        promise4Refused();
        promise5();
        promise6();
        promise7();
        promise8();
        C.end("ShelfPromises");
    }

    private static void promise1() {
        Stone x = new Stone();
        int[] due = {0, 20, 100, 0, -1, 0, 31, 0, 1, 0, -1, 0, 0, 0, 0, 0, 0, 0, -1};
        for (int what = 0; what < due.length; what++) {
            C.due("new status(" + what + ")", x.status(what), due[what]);
        }
        for (int s = -1; s <= 8; s++) {
            C.due("new holds(" + s + ")", x.holds(s), -1);
        }
        C.due("new fault()", x.fault(), -1);
        C.due("new trace(0)", x.trace(0), -1);
        C.due("NONE", WhoComplainsCarries.NONE, -1);
    }

    private static void promise2() {
        Stone x = new Stone();
        C.due("row(0, 0, 0)", x.row(0, 0, 0), 1);
        C.due("no element", x.set(0, 0, 1), -5);
        C.due("row(7, 3, 160)", x.row(7, 3, 160), 1);
        C.due("set last", x.set(7, 159, 5), 1);
        C.due("set first", x.set(7, 0, 5), 1);
        C.due("row again", x.row(7, 3, 160), 1);
        C.due("new elements are 0", x.element(7, 159), 0);
        C.due("new elements are 0", x.element(7, 0), 0);
        C.due("row in place of one of the PEOPLE", x.person(0, 0, 1, 1), 0);
        x.show(1, 0);
        C.due("row(1, 1, 2)", x.row(1, 1, 2), 1);
        C.due("holds(1)", x.holds(1), 101);
        C.due("row(-1, 9, -1)", x.row(-1, 9, -1), -1);
        C.due("row(8, 0, 1)", x.row(8, 0, 1), -1);
        C.due("row(0, 9, -1)", x.row(0, 9, -1), -4);
        C.due("row(0, 4, 161)", x.row(0, 4, 161), -6);
        C.due("row(0, -1, 1)", x.row(0, -1, 1), -6);
        C.due("row(0, 0, 161)", x.row(0, 0, 161), -7);
        C.due("row(0, 0, max)", x.row(0, 0, Integer.MAX_VALUE), -7);
        C.due("row(0, 0, min)", x.row(0, 0, Integer.MIN_VALUE), -4);
        C.due("a refused row leaves the old one", x.holds(1), 101);
        C.refused(x, 2, 0, 0, 2, 1, 2, 2);
    }

    private static void promise3() {
        Stone x = new Stone();
        long[] put = {127, 128, 255, 32768, 65535, 2147483648L, 4294967295L, Long.MIN_VALUE};
        long[][] due = {
            {127, -128, -1, 0, -1, 0, -1, 0},
            {127, 128, 255, -32768, -1, 0, -1, 0},
            {127, 128, 255, 32768, 65535, -2147483648, -1, 0},
            put};
        for (int sort = 0; sort < 4; sort++) {
            x.row(sort, sort, 2);
            for (int i = 0; i < put.length; i++) {
                C.due("set", x.set(sort, 1, put[i]), 1);
                C.due("element of SORT " + sort, x.element(sort, 1), due[sort][i]);
            }
        }
        x.person(0, 0, 1, 1);
        x.show(5, 0);
        C.due("set(8, ..)", x.set(8, 0, 1), -1);
        C.due("set(-1, ..)", x.set(-1, 0, 1), -1);
        C.due("set one of the PEOPLE", x.set(5, 9, 1), -2);
        C.due("set NOTHING", x.set(6, 9, 1), -3);
        C.due("set below", x.set(0, -1, 1), -5);
        C.due("set beyond", x.set(0, 2, 1), -5);
        C.refused(x, 2, 1, 1, 0, 2, 0, 0);
    }

    private static void promise4() {
        Stone x = new Stone();
        x.numbers(0, 1, 2, 3, 4, 5);
        C.due("copy onto itself upward", x.copy(0, 0, 0, 2, 3), 1);
        int[] up = {1, 2, 1, 2, 3};
        for (int i = 0; i < 5; i++) {
            C.due("upward " + i, x.element(0, i), up[i]);
        }
        C.due("copy onto itself downward", x.copy(0, 0, 2, 1, 3), 1);
        int[] down = {1, 1, 2, 3, 3};
        for (int i = 0; i < 5; i++) {
            C.due("downward " + i, x.element(0, i), down[i]);
        }
        x.numbers(1, 9, 8, 7);
        C.due("copy(1, 0, 1, 3, 2)", x.copy(1, 0, 1, 3, 2), 1);
        C.due("copied", x.element(0, 3), 8);
        C.due("copied", x.element(0, 4), 7);
        C.due("left", x.element(0, 2), 2);
        C.due("nothing to copy at the ends", x.copy(1, 0, 3, 5, 0), 1);
        x.set(1, 0, 6);
        C.due("a copy is no second name", x.element(0, 0), 1);
    }

    private static void promise4Refused() {
        Stone x = new Stone();
        x.person(0, 0, 1, 1);
        x.numbers(0, 1, 2, 3);
        x.numbers(1, 1, 2);
        x.text(2, "ab");
        x.show(3, 0);
        C.due("no p", x.copy(-1, 3, -1, 0, -1), -1);
        C.due("no q", x.copy(3, 8, -1, 0, -1), -1);
        C.due("p one of the PEOPLE", x.copy(3, 4, 0, 0, -1), -2);
        C.due("q one of the PEOPLE", x.copy(4, 3, 0, 0, -1), -2);
        C.due("two SORTS", x.copy(0, 2, 0, 0, -1), -2);
        C.due("p NOTHING", x.copy(4, 0, 0, 0, -1), -3);
        C.due("q NOTHING", x.copy(0, 4, 0, 0, -1), -3);
        C.due("n below", x.copy(0, 1, -1, 0, -1), -4);
        C.due("i below", x.copy(0, 1, -1, 0, 1), -5);
        C.due("j below", x.copy(0, 1, 0, -1, 1), -5);
        C.due("no end in p", x.copy(0, 1, 2, 0, 2), -5);
        C.due("no end in q", x.copy(0, 1, 0, 1, 2), -5);
        C.due("no such place in p", x.copy(0, 1, 4, 0, 0), -5);
        C.due("no such place in q", x.copy(0, 1, 0, 3, 0), -5);
        C.due("far ends", x.copy(0, 1, Integer.MAX_VALUE, 0, Integer.MAX_VALUE), -5);
        C.refused(x, 2, 3, 2, 1, 7, 0, 0);
    }

    private static void promise5() {
        Stone x = new Stone();
        x.person(0, 0, 1, 1);
        x.row(0, 3, 2);
        x.set(0, 1, Long.MAX_VALUE);
        x.show(1, 0);
        C.due("element(0, 1)", x.element(0, 1), Long.MAX_VALUE);
        C.due("element(0, 2)", x.element(0, 2), 0);
        C.due("element(0, -1)", x.element(0, -1), 0);
        C.due("element(1, 0)", x.element(1, 0), 0);
        C.due("element(2, 0)", x.element(2, 0), 0);
        C.due("element(8, 0)", x.element(8, 0), 0);
        C.due("element(-1, 0)", x.element(-1, 0), 0);
        x.row(0, 3, 1);
        C.due("a shorter new ROW", x.element(0, 1), 0);
        x.set(0, 0, 7);
        x.show(0, -1);
        C.due("behind a ROW", x.element(0, 0), 0);
        C.refused(x, 0, 0, 0, 0, 0, 0, 0);
    }

    private static void promise6() {
        Stone x = new Stone();
        C.due("show nobody such", x.show(0, 0), -1);
        x.person(0, 0, 1, 1);
        x.person(1, 0, 1, 1);
        x.row(0, 0, 3);
        C.due("show(0, 1)", x.show(0, 1), 1);
        C.due("holds(0)", x.holds(0), 1);
        C.due("show(0, -1)", x.show(0, -1), 0);
        C.due("holds(0)", x.holds(0), -1);
        C.due("show(0, 2)", x.show(0, 2), -1);
        C.due("show(0, -2)", x.show(0, -2), -1);
        C.due("show(8, 0)", x.show(8, 0), -1);
        C.due("show(-1, -1)", x.show(-1, -1), -1);
        C.due("show(7, 0)", x.show(7, 0), 1);
        C.refused(x, 5, 0, 0, 0, 0, 0, 0);
    }

    private static void promise7() {
        Stone x = new Stone();
        x.person(3, 0, 1, 1);
        for (int sort = 0; sort < 4; sort++) {
            x.row(sort, sort, 1);
            C.due("holds a ROW", x.holds(sort), 100 + sort);
        }
        x.show(0, 0);
        C.due("holds one of the PEOPLE", x.holds(0), 0);
        C.due("holds NOTHING", x.holds(4), -1);
        C.due("holds(8)", x.holds(8), -1);
        C.due("holds(-1)", x.holds(-1), -1);
        C.refused(x, 0, 0, 0, 0, 0, 0, 0);
    }

    /** What each of seven says for each KIND; WEIGHT 20. */
    private static void promise8() {
        Stone x = new Stone();
        for (int kind = 0; kind < 7; kind++) {
            x.person(kind, 4, 15, 12);
            x.tire(kind, 30 + kind);
            x.show(kind, kind);
        }
        int[][] due = {
            {30, -2, -2, -2, -2, -2, -2},
            {31, 24, -2, -2, -2, -2, -2},
            {32, -2, 1, -2, -2, -2, -2},
            {33, 24, -2, 24, -2, -2, -2},
            {34, -2, -2, -2, 2, -2, -2},
            {35, -2, 1, -2, -2, 1, -2},
            {36, -2, -2, -2, 2, -2, 2}};
        for (int s = 0; s < 7; s++) {
            for (int kind = 0; kind < 7; kind++) {
                C.due("says(" + s + ", " + kind + ")", x.says(s, kind), due[s][kind]);
            }
        }
        C.due("says(-1, 0)", x.says(-1, 0), -1);
        C.due("says(8, 0)", x.says(8, 0), -1);
        C.due("says(0, 7)", x.says(0, 7), -1);
        C.due("says(7, -1)", x.says(7, -1), -1);
        C.due("says(7, 1)", x.says(7, 1), -3);
        x.row(7, 0, 1);
        C.due("a ROW says", x.says(7, 0), -2);
        C.refused(x, 4, 34, 1, 0, 0, 0, 0);
        x.ask(0, 99);
        C.due("PACE by WEIGHT 99", x.says(4, 4), 1);
        C.due("TOIL by WEIGHT 99", x.says(5, 5), 4);
    }
}
