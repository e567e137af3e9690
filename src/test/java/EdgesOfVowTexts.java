/** How a VOW is read: each ITEM, each NUMBER, each place of a FAULT; promises 14 and 15. */
public final class EdgesOfVowTexts {
    private static final Checks C = new Checks();
    private static final int WHOLE = -1;
    private static final int LETTERS = 160;

    /** How many PEOPLE there are and how far the stone came, ahead of a text. */
    private static int people = 2;
    private static int came = 0;

    public static void main(String[] args) {
        items();
        manyItems();
        nothingThere();
        itemsFollowOneAnother();
        personItem();
        weightItem();
        wayItem();
        wayItemBehindALongWay();
        bearsItem();
        liesItem();
        countsAndFreeItems();
        numbersThatMayNotBe();
        digits();
        blanks();
        wordsBegin();
        cutAnywhere();
        alienAnywhere();
        anyValueAlien();
        sortsOfRowsRead();
        allOrNothing();
        roomForAWord();
        roomThatTheTextTakes();
        faultsAreKept();
        C.end("EdgesOfVowTexts");
    }

    private static Stone ahead() {
        Stone x = new Stone();
        for (int p = 0; p < people; p++) {
            x.person(Stone.WALKER, p, 10, 40);
        }
        if (came > 0) {
            x.ask(1, came);
            x.give(0);
            x.steps(60);
            x.give(-1);
        }
        return x;
    }

    /** The text is told: so many ITEMS, or its FAULT is there (then due is the place). */
    private static Stone read(String text, int items, int place) {
        Stone x = ahead();
        C.due("DONE", x.status(3), came);
        x.text(0, text);
        C.due("vow of '" + text + "'", x.vow(0), items);
        C.due("fault of '" + text + "'", x.fault(), place);
        C.due("REFUSALS by '" + text + "'", x.status(16), place == WHOLE ? 0 : 1);
        C.due("no other REFUSALS by '" + text + "'", x.status(17) + x.status(15) + x.status(11), 0);
        return x;
    }

    private static Stone told(String text, int items) {
        return read(text, items, WHOLE);
    }

    private static void fault(String text, int place) {
        Stone x = read(text, -6, place);
        C.due("WEIGHT", x.status(1), 20);
        C.due("BEARER", x.status(4), -1);
        C.due("RULE", x.status(6), 31);
        C.due("PEOPLE", x.status(0), people);
    }

    private static void items() {
        C.by("ITEM: person K A S P (STRENGTH, PATIENCE); weight N; way N (99 at most, no less than "
            + "DONE); bears X; lies; counts S (a SORT counts); free S (it doesn't).");
        Stone x = told("person 3 4 5 6", 1);
        int[] due = {3, 4, 5, 6, 0};
        for (int what = 0; what < due.length; what++) {
            C.due("personOf(2, " + what + ")", x.personOf(2, what), due[what]);
        }
        C.due("WEIGHT", told("weight 7", 1).status(1), 7);
        C.due("WAY", told("way 7", 1).status(2), 7);
        C.due("BEARER", told("bears 1", 1).status(4), 1);
        C.due("it lies", told("lies", 1).status(4), -1);
        C.due("RULE", told("free 3", 1).status(6), 23);
        C.due("RULE", told("counts 3", 1).status(6), 31);
        C.due("STEPS stay", told("lies", 1).status(5), 0);
        C.due("SEED stays", told("lies", 1).status(8), 1);
    }

    private static void manyItems() {
        C.by("ITEM, then any number of times ; and ITEM");
        StringBuilder text = new StringBuilder("lies");
        for (int items = 2; items <= 32; items++) {
            text.append(";lies");
            told(text.toString(), items);
        }
        String most = text.substring(0, 155);
        C.due("the last of 160 elements", told(most + "way 9", 32).status(2), 9);
        fault(most + "lies;", LETTERS);
        fault(most + "weigh", LETTERS);
        fault(most + "way ", LETTERS - 1);
        fault(most + "liesl", LETTERS - 1);
        fault(most + "way x", LETTERS - 1);
    }

    private static void nothingThere() {
        C.by("(the number of elements, if it ends too early)");
        fault("", 0);
        fault("lies;", 5);
        fault("weight", 6);
        fault("weight ", 7);
        fault("person 1 2 3", 12);
        fault("person 1 2 3 ", 13);
    }

    private static void itemsFollowOneAnother() {
        C.by("All is told over what there is");
        C.due("the last WEIGHT", told("weight 5;weight 6", 2).status(1), 6);
        C.due("it is borne, then lies", told("bears 1;lies", 2).status(4), -1);
        C.due("it lies, then is borne", told("lies;bears 0", 2).status(4), 0);
        C.due("free, then counts", told("free 2;counts 2", 2).status(6), 31);
        C.due("counts, then free", told("counts 2;free 2", 2).status(6), 27);
        C.due("all free", told("free 0;free 1;free 2;free 3;free 4", 5).status(6), 0);
        C.due("free twice", told("free 4;free 4", 2).status(6), 15);
        C.due("of the one told ahead", told("person 0 0 1 0;bears 2", 2).status(4), 2);
        Stone x = ahead();
        x.tire(0, 9);
        x.ask(2, 8);
        x.seed(5);
        x.steps(1);
        x.text(0, "person 1 1 1 1;counts 0");
        C.due("vow", x.vow(0), 2);
        int[] due = {3, 20, 100, 0, -1, 1, 9, 7, 5};
        for (int what = 0; what < due.length; what++) {
            C.due("status(" + what + ")", x.status(what), due[what]);
        }
    }

    private static void personItem() {
        C.by("person K A S P (STRENGTH, PATIENCE)");
        told("person 0 0 1 0", 1);
        told("person 6 9 40 40", 1);
        told("person 06 09 01 00", 1);
        fault("person 7 0 1 0", 7);
        fault("person 10 0 1 0", 7);
        fault("person 60 0 1 0", 7);
        fault("person 99 99 99 99", 7);
        fault("person 0 10 1 0", 9);
        fault("person 0 99 1 0", 9);
        fault("person 0 0 0 0", 11);
        fault("person 0 0 00 0", 11);
        fault("person 0 0 41 0", 11);
        told("person 0 0 40 0", 1);
        told("person 0 0 01 0", 1);
        fault("person 0 0 1 41", 13);
        told("person 0 0 1 40", 1);
        fault("person 0 0 1 99", 13);
        fault("person 0 0 1 0;person 7 0 1 0", 22);
        fault("person 0 0 1 0 0", 14);
        fault("person 0 0 1 0 ", 14);
        fault("person 0 0 1", 12);
        fault("person 0 0 1;lies", 12);
    }

    private static void weightItem() {
        C.by("weight N");
        C.due("WEIGHT", told("weight 1", 1).status(1), 1);
        C.due("WEIGHT", told("weight 01", 1).status(1), 1);
        C.due("WEIGHT", told("weight 99", 1).status(1), 99);
        C.due("WEIGHT", told("weight 10", 1).status(1), 10);
        fault("weight 0", 7);
        fault("weight 00", 7);
        fault("weight 100", 9);
        fault("weight 990", 9);
        fault("lies;weight 0", 12);
        fault("weight 0;lies", 7);
        fault("weight 5;weight 00;weight 6", 16);
    }

    private static void wayItem() {
        C.by("way N (99 at most, no less than DONE)");
        came = 0;
        C.due("WAY", told("way 0", 1).status(2), 0);
        C.due("WAY", told("way 00", 1).status(2), 0);
        C.due("WAY", told("way 99", 1).status(2), 99);
        fault("way 100", 6);
        fault("way 999", 6);
        came = 12;
        C.due("DONE is WAY", told("way 12", 1).status(2), 12);
        C.due("WAY", told("way 13", 1).status(2), 13);
        C.due("WAY", told("way 99", 1).status(2), 99);
        fault("way 11", 4);
        fault("way 1", 4);
        fault("way 0", 4);
        fault("way 012", 4);
        fault("way 120", 6);
        came = 9;
        told("way 9", 1);
        told("way 09", 1);
        fault("way 8", 4);
        came = 0;
    }

    private static void wayItemBehindALongWay() {
        C.by("way N (99 at most, no less than DONE)");
        came = 99;
        C.due("WAY", told("way 99", 1).status(2), 99);
        fault("way 98", 4);
        came = 100;
        fault("way 99", 4);
        fault("way 100", 4);
        fault("way 9", 4);
        fault("way ", 4);
        came = 0;
    }

    private static void bearsItem() {
        C.by("bears X");
        people = 0;
        fault("bears 0", 6);
        fault("bears ", 6);
        people = 1;
        C.due("BEARER", told("bears 0", 1).status(4), 0);
        C.due("BEARER", told("bears 00", 1).status(4), 0);
        fault("bears 1", 6);
        fault("bears 01", 6);
        fault("bears 10", 6);
        people = 7;
        C.due("BEARER", told("bears 6", 1).status(4), 6);
        C.due("BEARER", told("bears 06", 1).status(4), 6);
        fault("bears 7", 6);
        fault("bears 07", 6);
        fault("bears 99", 6);
        fault("bears 60", 6);
        fault("bears 000", 8);
        people = 2;
        fault("bears 2;person 0 0 1 0", 6);
        fault("person 0 0 1 0;bears 3", 21);
        told("person 0 0 1 0;bears 2", 2);
    }

    private static void liesItem() {
        C.by("lies");
        people = 1;
        Stone x = ahead();
        x.give(0);
        x.text(0, "lies");
        C.due("vow", x.vow(0), 1);
        C.due("it lies", x.status(4), -1);
        C.due("again", x.vow(0), 1);
        C.due("it lies", x.status(4), -1);
        people = 2;
        fault("lies ", 4);
        fault("lies 0", 4);
        fault("liess", 4);
    }

    private static void countsAndFreeItems() {
        C.by("counts S (a SORT counts); free S (it doesn't)");
        for (int sort = 0; sort < 5; sort++) {
            C.due("free " + sort, told("free " + sort, 1).status(6), 31 - (1 << sort));
            C.due("free 0" + sort, told("free 0" + sort, 1).status(6), 31 - (1 << sort));
            Stone x = ahead();
            x.ask(2, 0);
            x.text(0, "counts " + sort);
            C.due("vow", x.vow(0), 1);
            C.due("counts " + sort, x.status(6), 1 << sort);
        }
        int[] none = {5, 6, 9, 10, 40, 99};
        for (int sort : none) {
            fault("counts " + sort, 7);
            fault("free " + sort, 5);
        }
        fault("counts 05", 7);
        fault("free 05", 5);
        fault("counts 040", 9);
        fault("free 000", 7);
    }

    private static void numbersThatMayNotBe() {
        C.by("of a NUMBER that may not be the place of its first digit.");
        came = 12;
        allNumbers("person ", 0, 6, " 0 1 0");
        allNumbers("person 0 ", 0, 9, " 1 0");
        allNumbers("person 0 0 ", 1, 40, " 0");
        allNumbers("person 0 0 1 ", 0, 40, "");
        allNumbers("weight ", 1, 99, "");
        allNumbers("way ", 12, 99, "");
        allNumbers("bears ", 0, 1, "");
        allNumbers("counts ", 0, 4, "");
        allNumbers("free ", 0, 4, "");
        came = 0;
    }

    private static void allNumbers(String ahead, int least, int most, String behind) {
        for (int n = 0; n < 100; n++) {
            boolean mayBe = n >= least && n <= most;
            read(ahead + n + behind, mayBe ? 1 : -6, mayBe ? WHOLE : ahead.length());
            String two = ahead + (n < 10 ? "0" : "") + n + behind;
            read(two, mayBe ? 1 : -6, mayBe ? WHOLE : ahead.length());
        }
    }

    private static void digits() {
        C.by("NUMBERS (1 to 2 digits)");
        told("weight 9", 1);
        told("weight 09", 1);
        fault("weight 009", 7);
        fault("weight 123", 9);
        fault("weight x", 7);
        fault("weight /", 7);
        fault("weight :", 7);
        fault("weight 1/", 8);
        fault("weight 1:", 8);
        fault("weight -1", 7);
        fault("weight +1", 7);
        fault("weight 1.", 8);
        fault("person 1 2 3 4x", 14);
        fault("person 1 2 3 123", 15);
    }

    private static void blanks() {
        C.by("One blank between words and NUMBERS");
        fault(" lies", 0);
        fault("lies ;lies", 4);
        fault("lies; lies", 5);
        fault("lies ", 4);
        fault("weight5", 6);
        fault("weight  5", 7);
        fault("weight 5 ", 8);
        fault("weight 5 ;lies", 8);
        fault("weight\t5", 6);
        fault("weight\n5", 6);
        fault("person  1 2 3 4", 7);
        fault("person 1  2 3 4", 9);
        fault("person 1 2  3 4", 11);
        fault("person 1 2 3  4", 13);
        fault("person1 2 3 4", 6);
        fault("person 1;2 3 4", 8);
    }

    private static void wordsBegin() {
        C.by("The FAULT: the first place at which an element can't stand as such texts go on");
        fault("a", 0);
        fault("Weight 5", 0);
        fault(";lies", 0);
        fault("5", 0);
        fault("wight 5", 1);
        fault("wy", 1);
        fault("waight 5", 2);
        fault("wey 5", 2);
        fault("ways 5", 3);
        fault("weights 5", 6);
        fault("bear 0", 4);
        fault("bearss 0", 5);
        fault("counted 0", 5);
        fault("freed 0", 4);
        fault("lie;", 3);
        fault("lies;;lies", 5);
        fault("lies,lies", 4);
        fault("lies;Lies", 5);
        fault("lieslies", 4);
        fault("people 1 2 3 4", 2);
    }

    /** Texts of which each beginning ends too early, but those whose lengths are told. */
    private static final String[] TEXTS = {"person 3 2 12 34", "weight 12", "way 12", "bears 0", "lies",
        "counts 3", "free 4", "person 1 2 34 5;weight 12;way 99;bears 1;lies;counts 0;free 1"};
    private static final int[][] WHOLE_AT = {{15, 16}, {8, 9}, {5, 6}, {7}, {4}, {8}, {6},
        {15, 24, 25, 31, 32, 40, 45, 54, 61}};

    private static boolean isIn(int[] row, int v) {
        for (int one : row) {
            if (one == v) {
                return true;
            }
        }
        return false;
    }

    private static void cutAnywhere() {
        C.by("(the number of elements, if it ends too early)");
        for (int t = 0; t < TEXTS.length; t++) {
            for (int n = 0; n <= TEXTS[t].length(); n++) {
                String cut = TEXTS[t].substring(0, n);
                if (isIn(WHOLE_AT[t], n)) {
                    told(cut, cut.split(";").length);
                } else {
                    fault(cut, n);
                }
            }
        }
    }

    private static void alienAnywhere() {
        C.by("the first place at which an element can't stand");
        char[] aliens = {'#', 'z', 'E', '\0', 127, 128, 255};
        for (String text : TEXTS) {
            for (int place = 0; place < text.length(); place++) {
                char alien = aliens[place % aliens.length];
                fault(text.substring(0, place) + alien + text.substring(place + 1), place);
            }
            fault(text + "#", text.length());
        }
    }

    /** A letter in a longer number is none: bytes keep the letter alone, others keep it all. */
    private static void anyValueAlien() {
        C.by("All is read as ints (of longs the lowest 32 bits).");
        long[] added = {256, -256, 65536, 1L << 31, 1L << 32, -1L << 32, 1L << 16};
        for (int sort = 0; sort < 4; sort++) {
            for (long more : added) {
                Stone x = ahead();
                x.row(0, sort, 4);
                for (int i = 0; i < 4; i++) {
                    x.set(0, i, "lies".charAt(i) + (i == 2 ? more : 0));
                }
                int bits = Math.min(32, 8 << sort);
                boolean lost = more << 64 - bits == 0;
                C.due("vow with " + more + " more, SORT " + sort, x.vow(0), lost ? 1 : -6);
                C.due("fault with " + more + " more, SORT " + sort, x.fault(), lost ? WHOLE : 2);
            }
        }
    }

    private static void sortsOfRowsRead() {
        C.by("A VOW is read from a ROW of letters");
        String text = "weight 31;bears 1";
        for (int sort = 0; sort < 4; sort++) {
            Stone x = ahead();
            x.row(7, sort, text.length());
            for (int i = 0; i < text.length(); i++) {
                x.set(7, i, text.charAt(i));
            }
            C.due("vow, SORT " + sort, x.vow(7), 2);
            C.due("WEIGHT", x.status(1), 31);
            C.due("BEARER", x.status(4), 1);
            C.due("the ROW stays", x.element(7, 16), '1');
            C.due("the ROW stays", x.holds(7), 100 + sort);
        }
    }

    private static void allOrNothing() {
        C.by("All is told over what there is, or nothing");
        String all = "person 1 1 1 1;weight 9;way 9;bears 2;counts 0;free 4;";
        String[] ends = {"", "x", "lie", "weight 0", "way 100", "bears 3", "counts 5", "free", ";"};
        for (String end : ends) {
            Stone x = ahead();
            x.give(1);
            x.ask(2, 30);
            x.text(0, all + end);
            C.due("vow of '" + all + end + "'", x.vow(0), -6);
            int[] due = {2, 20, 100, 0, 1, 0, 30, 0, 1};
            for (int what = 0; what < due.length; what++) {
                C.due("status(" + what + ") behind '" + end + "'", x.status(what), due[what]);
            }
            C.due("nobody came", x.personOf(2, 0), -5);
        }
        Stone x = ahead();
        x.text(0, all + "lies");
        C.due("whole", x.vow(0), 7);
        int[] due = {3, 9, 9, 0, -1, 0, 15, 0, 1};
        for (int what = 0; what < due.length; what++) {
            C.due("status(" + what + ")", x.status(what), due[what]);
        }
    }

    private static void roomForAWord() {
        C.by("Whether there is room for a word is asked when its letters stand whole: until then the "
            + "first element that is not as it is the FAULT, or the number of elements.");
        people = 7;
        String word = "person";
        for (int n = 0; n < word.length(); n++) {
            fault(word.substring(0, n), n);
            fault(word.substring(0, n) + "#", n);
            fault(word.substring(0, n) + "#person", n);
            fault("lies;" + word.substring(0, n), 5 + n);
            fault("lies;" + word.substring(0, n) + ";", 5 + n);
        }
        String[] behind = {"", " ", "#", ";", " 9", " 0 0 1 0", " 7 0 1 0", " 0 0 1 0;lies", "s"};
        for (String rest : behind) {
            fault(word + rest, 0);
            fault("lies;" + word + rest, 5);
        }
        fault("lies;lies;" + word, 10);
        fault("weight 0;" + word, 7);
        told("weight 1;bears 6", 2);
        people = 6;
        fault(word, 6);
        fault(word + " ", 7);
        fault(word + "#", 6);
        told(word + " 0 0 1 0", 1);
        people = 2;
    }

    private static void roomThatTheTextTakes() {
        C.by("what there is no room for can't stand: its word, once that is whole");
        String one = "person 0 0 1 0";
        for (int there = 0; there <= 7; there++) {
            people = there;
            StringBuilder text = new StringBuilder();
            for (int more = 1; more <= 8; more++) {
                text.append(more == 1 ? "" : ";").append(one);
                if (there + more <= 7) {
                    C.due("PEOPLE", told(text.toString(), more).status(0), there + more);
                } else {
                    fault(text.toString(), 15 * (7 - there));
                }
            }
        }
        people = 2;
    }

    private static void faultsAreKept() {
        C.by("The FAULT of the latest vow() that came to a ROW; NONE: there was none, or none yet.");
        Stone x = ahead();
        C.due("none yet", x.fault(), -1);
        x.vow(3);
        x.vow(-1);
        x.show(1, 0);
        x.vow(1);
        C.due("they came to no ROW", x.fault(), -1);
        x.row(0, 0, 0);
        C.due("no letters", x.vow(0), -6);
        C.due("at once", x.fault(), 0);
        x.text(0, "liex");
        x.vow(0);
        C.due("the latest", x.fault(), 3);
        x.vow(3);
        x.vow(8);
        x.vow(1);
        C.due("they came to no ROW", x.fault(), 3);
        x.image();
        x.text(2, "lies");
        C.due("nothing but a vow() changes it", x.fault(), 3);
        C.due("whole", x.vow(2), 1);
        C.due("there was none", x.fault(), -1);
        x.restore();
        C.due("it is not in THE IMAGE", x.fault(), -1);
        x.row(0, 3, 160);
        x.vow(0);
        C.due("the first of 160", x.fault(), 0);
        C.refused(x, 2, 2, 2, 0, 0, 3, 0);
    }
}
