/** SHELVES and ROWS at their edges: promises 1 to 8, and what numbers keep. */
public final class EdgesOfShelves {
    private static final Checks C = new Checks();
    private static final int[] BITS = {8, 16, 32, 64};

    public static void main(String[] args) {
        anObjectAsNew();
        shelvesHoldNothingAtFirst();
        sortsOfRows();
        howManyElements();
        newRowsOnEveryShelf();
        elementsAreNothingAtFirst();
        lowestBits();
        firstAndLastElement();
        readAsInts();
        copiesAsTheyWereAhead();
        copiesOfNone();
        copiesOfAll();
        copiesKeepTheRest();
        shows();
        holds();
        saysByKinds();
        saysByStanding();
        C.end("EdgesOfShelves");
    }

    private static void anObjectAsNew() {
        C.by("Nobody; the stone lies.");
        Stone x = new Stone();
        C.due("PEOPLE", x.status(0), 0);
        C.due("BEARER", x.status(4), -1);
        C.due("give", x.give(-1), -1);
        C.due("first of the PEOPLE", x.person(0, 0, 1, 0), 0);
        Stone other = new Stone();
        C.due("another object has nobody", other.status(0), 0);
        C.due("NONE", WhoComplainsCarries.NONE, -1);
        x = new Stone();
        int[] due = {0, 20, 100, 0, -1, 0, 31, 0, 1, 0, -1, 0, 0, 0, 0, 0, 0, 0, -1};
        for (int what = 0; what < due.length; what++) {
            C.due("status(" + what + ")", x.status(what), due[what]);
        }
        C.due("FAULT", x.fault(), -1);
        C.due("TRACE", x.trace(0), -1);
        C.due("nobody SIGHS", x.sighs(0), 0);
        C.due("nobody is HINTED", x.sighs(1), 0);
        C.due("OVER", x.over(), -1);
        C.due("it lies ahead too", x.ahead(60, 0), -1);
        C.due("no IMAGE", x.restore(), -6);
    }

    private static void shelvesHoldNothingAtFirst() {
        C.by("SHELVES 0 to 7 hold NOTHING (at first), a ROW, or one of the PEOPLE.");
        Stone x = new Stone();
        for (int s = 0; s < 8; s++) {
            C.due("holds(" + s + ")", x.holds(s), -1);
            C.due("set(" + s + ", 0, 1)", x.set(s, 0, 1), -3);
            C.due("says(" + s + ", 0)", x.says(s, 0), -3);
            C.due("vow(" + s + ")", x.vow(s), -3);
            C.due("element(" + s + ", 0)", x.element(s, 0), 0);
        }
        C.refused(x, 0, 0, 24, 0, 0, 0, 0);
    }

    private static void sortsOfRows() {
        C.by("A ROW has a SORT (0 bytes, 1 shorts, 2 ints, 3 longs)");
        Stone x = new Stone();
        for (int sort = 0; sort < 4; sort++) {
            C.due("row of SORT " + sort, x.row(0, sort, 1), 1);
            C.due("holds", x.holds(0), 100 + sort);
            x.set(0, 0, -2);
            C.due("below 0", x.element(0, 0), -2);
        }
        C.due("SORT -1", x.row(0, -1, 1), -6);
        C.due("SORT 4", x.row(0, 4, 1), -6);
        C.due("still of longs", x.holds(0), 103);
        C.due("still there", x.element(0, 0), -2);
    }

    private static void howManyElements() {
        C.by("and 0 to 160 elements, 0 at first");
        for (int sort = 0; sort < 4; sort++) {
            Stone x = new Stone();
            C.due("none", x.row(0, sort, 0), 1);
            C.due("none to set", x.set(0, 0, 1), -5);
            C.due("one", x.row(0, sort, 1), 1);
            C.due("the one", x.set(0, 0, 1), 1);
            C.due("no second", x.set(0, 1, 1), -5);
            C.due("159", x.row(0, sort, 159), 1);
            C.due("the last of 159", x.set(0, 158, 1), 1);
            C.due("none behind it", x.set(0, 159, 1), -5);
            C.due("160", x.row(0, sort, 160), 1);
            C.due("the last of 160", x.set(0, 159, 1), 1);
            C.due("none behind it", x.set(0, 160, 1), -5);
            C.due("161", x.row(0, sort, 161), -7);
            C.due("-1", x.row(0, sort, -1), -4);
            C.due("the ROW of 160 stays", x.element(0, 159), 1);
        }
    }

    private static void newRowsOnEveryShelf() {
        C.by("SHELF s holds a new ROW: 1.");
        Stone x = new Stone();
        x.person(0, 0, 1, 0);
        for (int s = 0; s < 8; s++) {
            C.due("over NOTHING", x.row(s, 2, 160), 1);
            x.set(s, 159, s + 1);
        }
        for (int s = 0; s < 8; s++) {
            C.due("each has its own", x.element(s, 159), s + 1);
        }
        for (int s = 0; s < 8; s++) {
            x.show(s, 0);
            C.due("over one of the PEOPLE", x.row(s, s % 4, 2), 1);
            C.due("a ROW then", x.holds(s), 100 + s % 4);
            C.due("over a ROW", x.row(s, 3 - s % 4, 3), 1);
            C.due("of the new SORT", x.holds(s), 103 - s % 4);
            C.due("of the new size", x.set(s, 2, 1), 1);
        }
    }

    private static void elementsAreNothingAtFirst() {
        C.by("0 to 160 elements, 0 at first");
        Stone x = new Stone();
        x.row(5, 2, 160);
        for (int i = 0; i < 160; i++) {
            x.set(5, i, 9);
        }
        C.due("again", x.row(5, 2, 160), 1);
        for (int i = 0; i < 160; i++) {
            C.due("element(5, " + i + ")", x.element(5, i), 0);
        }
        Stone y = new Stone();
        y.row(0, 3, 4);
        y.set(0, 3, 7);
        y.row(0, 3, 2);
        C.due("a shorter one ends", y.element(0, 3), 0);
        y.row(0, 3, 4);
        C.due("a longer one is new", y.element(0, 3), 0);
        y.set(0, 3, 7);
        y.show(0, -1);
        C.due("NOTHING has none", y.element(0, 3), 0);
    }

    private static void lowestBits() {
        C.by("what is put in keeps its lowest bits");
        for (int sort = 0; sort < 4; sort++) {
            long half = 1L << BITS[sort] - 1;
            long most = half - 1;
            long[] put = {0, 1, -1, most, half, half + 1, -half, -half - 1, 2 * half - 1, 2 * half,
                2 * half + 5, -2 * half, Long.MAX_VALUE, Long.MIN_VALUE, 0x123456789abcdef0L};
            Stone x = new Stone();
            x.row(0, sort, 3);
            for (long v : put) {
                C.due("set", x.set(0, 1, v), 1);
                int lost = 64 - BITS[sort];
                C.due(v + " in SORT " + sort, x.element(0, 1), v << lost >> lost);
                C.due("ahead of it", x.element(0, 0), 0);
                C.due("behind it", x.element(0, 2), 0);
            }
        }
        Stone x = new Stone();
        x.row(0, 0, 1);
        x.set(0, 0, 128);
        C.due("128 in a byte", x.element(0, 0), -128);
        x.row(0, 1, 1);
        x.set(0, 0, 32768);
        C.due("32768 in a short", x.element(0, 0), -32768);
        x.row(0, 2, 1);
        x.set(0, 0, 1L << 31);
        C.due("2147483648 in an int", x.element(0, 0), Integer.MIN_VALUE);
    }

    private static void firstAndLastElement() {
        C.by("Element i of the ROW becomes v: 1.");
        Stone x = new Stone();
        x.row(3, 1, 160);
        C.due("first", x.set(3, 0, 5), 1);
        C.due("last", x.set(3, 159, 6), 1);
        C.due("first", x.element(3, 0), 5);
        C.due("second", x.element(3, 1), 0);
        C.due("last but one", x.element(3, 158), 0);
        C.due("last", x.element(3, 159), 6);
        C.due("behind the last", x.element(3, 160), 0);
        C.due("ahead of the first", x.element(3, -1), 0);
        C.due("set again", x.set(3, 0, 0), 1);
        C.due("first", x.element(3, 0), 0);
    }

    /** The upper half of a long is no matter wherever a ROW is told; it is kept in the element. */
    private static void readAsInts() {
        C.by("All is read as ints (of longs the lowest 32 bits).");
        long[] high = {1L << 32, -1L << 32, 77L << 40, Long.MIN_VALUE};
        for (long h : high) {
            Stone x = new Stone();
            x.person(0, 0, 10, 40);
            x.give(0);
            longs(x, 0, h, 3, 1, 3, 0);
            C.due("cases", x.cases(0, 1, 0), 8);
            C.due("clash", x.clash(0, 2), 1);
            longs(x, 0, h, 2, 4, 6);
            C.due("borne", x.borne(0, 3), 1);
            longs(x, 0, h, 4, 6);
            C.due("judge", x.judge(0, 2), 1);
            C.due("behind", x.behind(0, 1, 1), 2);
            C.due("done", x.done(0, 1), 2);
            longs(x, 0, h, 'l', 'i', 'e', 's');
            C.due("element", x.element(0, 3), h + 's');
            C.due("vow", x.vow(0), 1);
            C.due("lies", x.status(4), -1);
        }
        Stone x = new Stone();
        x.person(0, 0, 10, 40);
        longs(x, 0, 0, 1L << 31, 3 * (1L << 31));
        C.due("below 0 then", x.judge(0, 1), 0);
        C.due("below 0 then", x.cases(0, 1, 0), -16);
        x.row(1, 1, 4);
        for (int i = 0; i < 4; i++) {
            x.set(1, i, 256 + "lies".charAt(i));
        }
        x.vow(1);
        C.due("a short that is no letter", x.fault(), 0);
    }

    private static void longs(Stone x, int s, long high, long... told) {
        x.row(s, 3, told.length);
        for (int i = 0; i < told.length; i++) {
            x.set(s, i, high + told[i]);
        }
    }

    private static Stone twoRows() {
        Stone x = new Stone();
        x.numbers(0, 1, 2, 3, 4, 5, 6);
        x.numbers(1, 11, 12, 13, 14);
        return x;
    }

    private static void rowIs(Stone x, String what, int s, int... due) {
        for (int i = 0; i < due.length; i++) {
            C.due(what + ": element(" + s + ", " + i + ")", x.element(s, i), due[i]);
        }
        C.due(what + ": no element more", x.set(s, due.length, 0), -5);
    }

    private static void copiesAsTheyWereAhead() {
        C.by("come to elements j, j + 1, .. of that in q (as they were ahead): 1.");
        Stone x = twoRows();
        C.due("one on", x.copy(0, 0, 0, 1, 5), 1);
        rowIs(x, "one on", 0, 1, 1, 2, 3, 4, 5);
        x = twoRows();
        C.due("one back", x.copy(0, 0, 1, 0, 5), 1);
        rowIs(x, "one back", 0, 2, 3, 4, 5, 6, 6);
        x = twoRows();
        C.due("onto its own place", x.copy(0, 0, 1, 1, 4), 1);
        rowIs(x, "onto its own place", 0, 1, 2, 3, 4, 5, 6);
        x = twoRows();
        C.due("last to first", x.copy(0, 0, 5, 0, 1), 1);
        rowIs(x, "last to first", 0, 6, 2, 3, 4, 5, 6);
        x = twoRows();
        C.due("two on", x.copy(0, 0, 0, 2, 4), 1);
        rowIs(x, "two on", 0, 1, 2, 1, 2, 3, 4);
    }

    private static void copiesOfNone() {
        C.by("-5 i or j below 0, or an end that isn't there.");
        Stone x = twoRows();
        C.due("none, from the ends on", x.copy(0, 1, 6, 4, 0), 1);
        C.due("none, from the first on", x.copy(0, 1, 0, 0, 0), 1);
        C.due("none, beyond p", x.copy(0, 1, 7, 4, 0), -5);
        C.due("none, beyond q", x.copy(0, 1, 6, 5, 0), -5);
        C.due("none, below p", x.copy(0, 1, -1, 4, 0), -5);
        C.due("none, below q", x.copy(0, 1, 6, -1, 0), -5);
        C.due("less than none", x.copy(0, 1, 0, 0, -1), -4);
        x.row(2, 2, 0);
        C.due("none to a ROW of none", x.copy(0, 2, 6, 0, 0), 1);
        C.due("none from a ROW of none", x.copy(2, 2, 0, 0, 0), 1);
        C.due("one to a ROW of none", x.copy(0, 2, 0, 0, 1), -5);
        C.due("one from a ROW of none", x.copy(2, 0, 0, 0, 1), -5);
        rowIs(x, "p", 0, 1, 2, 3, 4, 5, 6);
        rowIs(x, "q", 1, 11, 12, 13, 14);
    }

    private static void copiesOfAll() {
        C.by("Elements i, i + 1, .. of the ROW in SHELF p, n of them");
        Stone x = new Stone();
        x.row(0, 3, 160);
        x.row(7, 3, 160);
        for (int i = 0; i < 160; i++) {
            x.set(0, i, Long.MIN_VALUE + i);
        }
        C.due("all", x.copy(0, 7, 0, 0, 160), 1);
        for (int i = 0; i < 160; i += 53) {
            C.due("element(7, " + i + ")", x.element(7, i), Long.MIN_VALUE + i);
        }
        C.due("one more", x.copy(0, 7, 0, 0, 161), -5);
        C.due("all from the second on", x.copy(0, 7, 1, 0, 160), -5);
        C.due("all to the second on", x.copy(0, 7, 0, 1, 160), -5);
        C.due("all but one from the second on", x.copy(0, 7, 1, 1, 159), 1);
        C.due("all but one on", x.copy(7, 7, 0, 1, 159), 1);
        C.due("first", x.element(7, 0), Long.MIN_VALUE);
        C.due("second", x.element(7, 1), Long.MIN_VALUE);
        C.due("last", x.element(7, 159), Long.MIN_VALUE + 158);
        C.due("p stays", x.element(0, 159), Long.MIN_VALUE + 159);
    }

    private static void copiesKeepTheRest() {
        C.by("n of them, come to elements j, j + 1, .. of that in q");
        Stone x = twoRows();
        C.due("two", x.copy(0, 1, 4, 1, 2), 1);
        rowIs(x, "q", 1, 11, 5, 6, 14);
        rowIs(x, "p", 0, 1, 2, 3, 4, 5, 6);
        C.due("to the end", x.copy(1, 0, 0, 2, 4), 1);
        rowIs(x, "the other way", 0, 1, 2, 11, 5, 6, 14);
        C.due("one more than there is room for", x.copy(1, 0, 0, 3, 4), -5);
        C.due("one more than there is", x.copy(1, 0, 1, 0, 4), -5);
        x.row(2, 0, 2);
        x.row(3, 0, 2);
        x.set(2, 1, -128);
        C.due("bytes", x.copy(2, 3, 1, 0, 1), 1);
        C.due("below 0", x.element(3, 0), -128);
    }

    private static void shows() {
        C.by("SHELF s holds one of the PEOPLE, or NOTHING (person NONE): 1, 0.");
        Stone x = new Stone();
        C.due("nobody there", x.show(0, 0), -1);
        C.due("NOTHING, nobody there", x.show(0, -1), 0);
        for (int p = 0; p < 7; p++) {
            C.due("not yet there", x.show(p, p), -1);
            x.person(p, 0, 1, 0);
            C.due("show(" + p + ")", x.show(p, p), 1);
            C.due("holds(" + p + ")", x.holds(p), p);
        }
        C.due("no seventh behind 0 to 6", x.show(7, 7), -1);
        C.due("the last SHELF", x.show(7, 6), 1);
        C.due("two SHELVES hold the same", x.show(0, 6), 1);
        C.due("holds(0)", x.holds(0), 6);
        C.due("holds(6)", x.holds(6), 6);
        x.row(1, 3, 5);
        C.due("over a ROW", x.show(1, 0), 1);
        C.due("no ROW then", x.set(1, 0, 1), -2);
        C.due("no element then", x.element(1, 0), 0);
        for (int s = 0; s < 8; s++) {
            C.due("NOTHING", x.show(s, -1), 0);
            C.due("holds(" + s + ")", x.holds(s), -1);
        }
        C.due("NOTHING again", x.show(0, -1), 0);
        C.refused(x, 9, 1, 0, 0, 0, 0, 0);
    }

    private static void holds() {
        C.by("What SHELF s holds: NONE NOTHING, or no such SHELF; a PERSON's number; 100 and the SORT "
            + "of a ROW.");
        Stone x = new Stone();
        x.person(6, 0, 1, 0);
        x.row(0, 0, 0);
        x.row(7, 3, 160);
        x.show(1, 0);
        C.due("a ROW of no elements", x.holds(0), 100);
        C.due("longs", x.holds(7), 103);
        C.due("the first of the PEOPLE", x.holds(1), 0);
        C.due("NOTHING", x.holds(2), -1);
        C.due("holds(-1)", x.holds(-1), -1);
        C.due("holds(8)", x.holds(8), -1);
        C.refused(x, 0, 0, 0, 0, 0, 0, 0);
    }

    /** For each KIND of one, the KINDS he may be taken for (bits). */
    private static void saysByKinds() {
        C.by("each of a KIND: 0 WALKER; 1 PIOUS, 2 SINGER, 4 CHILD, each under WALKER; 3 BISHOP, under "
            + "PIOUS; 5 DEAF, under SINGER; 6 CLERK, under CHILD");
        int[] may = {1, 1 + 2, 1 + 4, 1 + 2 + 8, 1 + 16, 1 + 4 + 32, 1 + 16 + 64};
        for (int kind = 0; kind < 7; kind++) {
            Stone x = new Stone();
            x.person(kind, 5, 7, 9);
            x.tire(0, 50);
            x.show(0, 0);
            int others = 0;
            for (int asked = 0; asked < 7; asked++) {
                boolean is = (may[kind] >> asked & 1) == 1;
                int said = x.says(0, asked);
                C.due(kind + " taken for " + asked, said == -2 ? 0 : 1, is ? 1 : 0);
                others += is ? 0 : 1;
            }
            C.due("KIND -1", x.says(0, -1), -1);
            C.due("KIND 7", x.says(0, 7), -1);
            C.refused(x, 2, others, 0, 0, 0, 0, 0);
        }
    }

    /** What is said is his own, by his own KIND; only which it is comes from the KIND asked. */
    private static void saysByStanding() {
        C.by("What the one in SHELF s, taken for one of a KIND, says: WALKER his TIRED; PIOUS, BISHOP "
            + "his LIMIT; SINGER, DEAF his TOIL; CHILD, CLERK his PACE.");
        for (int kind = 0; kind < 7; kind++) {
            for (int weight = 1; weight <= 99; weight += 14) {
                Stone x = new Stone();
                x.person(0, 0, 40, 40);
                x.person(kind, 3, 9, 11);
                x.tire(1, weight);
                x.ask(0, weight);
                x.show(7, 1);
                int[] which = {4, 7, 6, 7, 5, 6, 5};
                for (int asked = 0; asked < 7; asked++) {
                    int said = x.says(7, asked);
                    C.due("says(7, " + asked + ")", said,
                        said == -2 ? -2 : x.personOf(1, which[asked]));
                }
            }
        }
        Stone x = new Stone();
        x.person(0, 0, 1, 0);
        x.show(0, 0);
        C.due("not TIRED", x.says(0, 0), 0);
        x.tire(0, 99);
        C.due("most TIRED", x.says(0, 0), 99);
        C.due("nothing is refused", x.status(12), 0);
    }
}
