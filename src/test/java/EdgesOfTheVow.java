/** 1. THE VOW at its edges: WEIGHT, WAY, DONE, BEARER, STEPS, RULE, PEOPLE; promises 9 to 13. */
public final class EdgesOfTheVow {
    private static final Checks C = new Checks();
    private static final int MIN = Integer.MIN_VALUE;
    private static final int MAX = Integer.MAX_VALUE;

    public static void main(String[] args) {
        weight();
        weightGrowsToItsMost();
        way();
        wayNoLessThanDone();
        doneIsWayAtMost();
        bearer();
        stepsTaken();
        rule();
        eachBitIsASort();
        numbersOfPeople();
        allPlacesTaken();
        kinds();
        rangeOfA();
        rangeOfStrength();
        rangeOfPatience();
        rangeOfTired();
        tiredAtFirst();
        paceAndToilAndLimit();
        C.end("EdgesOfTheVow");
    }

    private static void asked(Stone x, int what, int v, int due) {
        C.due("ask(" + what + ", " + v + ")", x.ask(what, v), due);
    }

    private static void weight() {
        C.by("WEIGHT of the stone (1 to 99; 20 at first)");
        Stone x = new Stone();
        C.due("WEIGHT at first", x.status(1), 20);
        asked(x, 0, 1, 20);
        asked(x, 0, 0, -6);
        C.due("WEIGHT", x.status(1), 1);
        asked(x, 0, 99, 1);
        asked(x, 0, 100, -6);
        C.due("WEIGHT", x.status(1), 99);
        asked(x, 0, -1, -6);
        asked(x, 0, MIN, -6);
        asked(x, 0, MAX, -6);
        asked(x, 0, 98, 99);
        asked(x, 0, 98, 98);
        C.due("WEIGHT", x.status(1), 98);
        C.refused(x, 0, 0, 0, 0, 0, 5, 0);
    }

    private static void weightGrowsToItsMost() {
        C.by("praise: WEIGHT is 1 more (99 at most), whether it counts or not.");
        Stone x = new Stone();
        x.person(0, 0, 40, 0);
        x.ask(0, 98);
        C.due("praise", x.say(0, 1), 1);
        C.due("98 and 1", x.status(1), 99);
        C.due("praise", x.say(0, 1), 1);
        C.due("99 is the most", x.status(1), 99);
        x.ask(2, 0);
        x.give(-1);
        x.ask(0, 98);
        C.due("praise that is free", x.say(0, 1), 0);
        C.due("98 and 1", x.status(1), 99);
        x.say(0, 1);
        C.due("99 is the most", x.status(1), 99);
        x.ask(0, 1);
        x.say(0, 1);
        C.due("1 and 1", x.status(1), 2);
    }

    private static void way() {
        C.by("WAY (how far it is, 0 to 999; 100 at first)");
        Stone x = new Stone();
        C.due("WAY at first", x.status(2), 100);
        asked(x, 1, 0, 100);
        C.due("WAY", x.status(2), 0);
        asked(x, 1, -1, -6);
        asked(x, 1, 999, 0);
        asked(x, 1, 1000, -6);
        C.due("WAY", x.status(2), 999);
        asked(x, 1, MIN, -6);
        asked(x, 1, MAX, -6);
        asked(x, 1, 998, 999);
        C.refused(x, 0, 0, 0, 0, 0, 4, 0);
    }

    private static void wayNoLessThanDone() {
        C.by("WAY (1; no less than DONE)");
        Stone x = new Stone();
        x.person(0, 0, 20, 40);
        x.give(0);
        C.due("DONE", x.steps(3), 12);
        asked(x, 1, 11, -6);
        asked(x, 1, 0, -6);
        C.due("WAY stays", x.status(2), 100);
        asked(x, 1, 12, 100);
        C.due("DONE stays", x.status(3), 12);
        C.due("it is there", x.over(), 0);
        asked(x, 1, 13, 12);
        C.due("no more", x.steps(1), 13);
        asked(x, 1, 12, -6);
        asked(x, 1, 13, 13);
    }

    private static void doneIsWayAtMost() {
        C.by("DONE (how far it came, 0 at first, WAY at most)");
        int[][] due = {{0, 0, 0}, {1, 1, 1}, {8, 8, 8}, {9, 9, 9}, {10, 9, 10}, {17, 9, 17},
            {18, 9, 18}, {19, 9, 18}, {999, 9, 18}};
        for (int[] d : due) {
            Stone x = new Stone();
            x.person(0, 0, 40, 40);
            x.ask(0, 1);
            C.due("DONE at first", x.status(3), 0);
            x.ask(1, d[0]);
            x.give(0);
            C.due("WAY " + d[0] + ": ahead", x.ahead(2, 1), d[2]);
            C.due("WAY " + d[0] + ": one", x.steps(1), d[1]);
            C.due("WAY " + d[0] + ": two", x.steps(1), d[2]);
            C.due("status(3)", x.status(3), d[2]);
        }
    }

    private static void bearer() {
        C.by("BEARER (one of the PEOPLE, or NONE: it lies; NONE at first)");
        Stone x = new Stone();
        C.due("BEARER at first", x.status(4), -1);
        C.due("nobody to give it to", x.give(0), -11);
        C.due("it lies still", x.give(-1), -1);
        for (int p = 0; p < 7; p++) {
            x.person(0, 0, 1, 0);
            C.due("give(" + (p + 1) + ")", x.give(p + 1), -11);
            C.due("give(" + p + ")", x.give(p), p - 1);
            C.due("BEARER", x.status(4), p);
        }
        C.due("give(-2)", x.give(-2), -11);
        C.due("BEARER", x.status(4), 6);
        C.due("to him who has it", x.give(6), 6);
        C.due("to the first", x.give(0), 6);
        C.due("it lies", x.give(-1), 0);
        C.due("BEARER", x.status(4), -1);
        C.refused(x, 9, 0, 0, 0, 0, 0, 0);
    }

    private static void stepsTaken() {
        C.by("STEPS taken (0 at first)");
        Stone x = new Stone();
        C.due("STEPS at first", x.status(5), 0);
        x.steps(1);
        C.due("with nobody", x.status(5), 1);
        x.ahead(60, 1);
        x.over();
        C.due("what might come is not counted", x.status(5), 1);
        x.steps(60);
        C.due("60 more", x.status(5), 61);
        x.steps(0);
        x.steps(61);
        C.due("none by a REFUSAL", x.status(5), 61);
        x.person(0, 0, 1, 0);
        x.say(0, 0);
        C.due("none by a SAYING", x.status(5), 61);
        x.days(60);
        C.due("one a day", x.status(5), 121);
        x.numbers(0, 0, 1);
        x.done(0, 2);
        C.due("one behind each SAYING told", x.status(5), 123);
        x.done(0, 0);
        C.due("none behind none", x.status(5), 123);
    }

    private static void rule() {
        C.by("RULE: SORTS of sayings (bits 0 to 4) that count (all 5 at first)");
        Stone x = new Stone();
        C.due("RULE at first", x.status(6), 31);
        int was = 31;
        for (int v = 0; v < 32; v++) {
            asked(x, 2, v, was);
            C.due("RULE", x.status(6), v);
            was = v;
        }
        asked(x, 2, 32, -6);
        asked(x, 2, -1, -6);
        asked(x, 2, 63, -6);
        asked(x, 2, MIN, -6);
        asked(x, 2, MAX, -6);
        C.due("RULE stays", x.status(6), 31);
        C.refused(x, 0, 0, 0, 0, 0, 5, 0);
    }

    private static void eachBitIsASort() {
        C.by("0 sigh, 1 praise, 2 hint, 3 asking, 4 cough.");
        for (int counting = 0; counting < 5; counting++) {
            Stone x = new Stone();
            x.person(0, 0, 10, 0);
            x.person(0, 0, 10, 0);
            x.ask(2, 1 << counting);
            for (int sort = 0; sort < 5; sort++) {
                x.give(1);
                C.due("by RULE " + (1 << counting) + " SORT " + sort, x.say(0, sort),
                    sort == counting ? 1 : 0);
            }
            x.give(1);
            x.tire(0, 50);
            x.steps(1);
            C.due("a sigh by RULE " + (1 << counting), x.status(4), counting == 0 ? 0 : 1);
        }
    }

    private static void numbersOfPeople() {
        C.by("PEOPLE have numbers, from 0 on, 7 at most");
        Stone x = new Stone();
        C.due("nobody", x.personOf(0, 0), -5);
        for (int p = 0; p < 7; p++) {
            C.due("how many", x.status(0), p);
            C.due("not there yet", x.tire(p, 1), -1);
            C.due("the number", x.person(6 - p, p, 40 - p, p), p);
            C.due("there", x.tire(p, p), 0);
        }
        C.due("how many", x.status(0), 7);
        for (int p = 0; p < 7; p++) {
            C.due("KIND", x.personOf(p, 0), 6 - p);
            C.due("a", x.personOf(p, 1), p);
            C.due("STRENGTH", x.personOf(p, 2), 40 - p);
            C.due("PATIENCE", x.personOf(p, 3), p);
            C.due("TIRED", x.personOf(p, 4), p);
        }
        C.due("TIRED together", x.status(7), 21);
    }

    private static void allPlacesTaken() {
        C.by("more than may be.");
        Stone x = new Stone();
        for (int p = 0; p < 7; p++) {
            x.person(0, 0, 1, 0);
        }
        C.due("the eighth", x.person(0, 0, 1, 0), -7);
        C.due("the eighth again", x.person(6, 9, 40, 40), -7);
        C.due("how many", x.status(0), 7);
        C.due("he isn't there", x.personOf(7, 0), -5);
        C.due("can't be shown", x.show(0, 7), -1);
        C.due("can't say a word", x.say(7, 0), -1);
        C.due("no KIND", x.person(7, 0, 1, 0), -1);
        C.due("no such a", x.person(0, 10, 1, 0), -6);
        C.refused(x, 3, 0, 0, 0, 1, 1, 2);
        Stone y = new Stone();
        for (int p = 0; p < 5; p++) {
            y.person(0, 0, 1, 0);
        }
        y.text(0, "person 1 0 1 0;person 2 0 1 0");
        C.due("two by a VOW", y.vow(0), 2);
        C.due("how many", y.status(0), 7);
        C.due("the sixth", y.personOf(5, 0), 1);
        C.due("the seventh", y.personOf(6, 0), 2);
        C.due("the eighth", y.person(0, 0, 1, 0), -7);
    }

    private static void kinds() {
        C.by("-1 KIND; -6; -7.");
        Stone x = new Stone();
        for (int kind = 0; kind < 7; kind++) {
            C.due("KIND " + kind, x.person(kind, 0, 1, 0), kind);
            C.due("KIND " + kind, x.personOf(kind, 0), kind);
        }
        x = new Stone();
        C.due("KIND -1", x.person(-1, 0, 1, 0), -1);
        C.due("KIND 7", x.person(7, 0, 1, 0), -1);
        C.due("nobody came", x.status(0), 0);
        C.refused(x, 2, 0, 0, 0, 0, 0, 0);
    }

    /** Of a, STRENGTH, PATIENCE the one that is asked (0, 1, 2) is v. */
    private static int personWith(Stone x, int which, int v) {
        return x.person(Stone.CLERK, which == 0 ? v : 0, which == 1 ? v : 1, which == 2 ? v : 0);
    }

    private static void range(int which, int least, int most) {
        Stone x = new Stone();
        int[] may = {least, least + 1, most - 1, most};
        for (int i = 0; i < may.length; i++) {
            C.due("with " + may[i], personWith(x, which, may[i]), i);
            C.due("it is", x.personOf(i, 1 + which), may[i]);
        }
        int[] mayNot = {least - 1, most + 1, MIN, MAX, least - 256, most + 65536};
        for (int v : mayNot) {
            C.due("with " + v, personWith(x, which, v), -6);
        }
        C.due("nobody more", x.status(0), 4);
        C.refused(x, 0, 0, 0, 0, 0, 6, 0);
    }

    private static void rangeOfA() {
        C.by("a (0 to 9)");
        range(0, 0, 9);
    }

    private static void rangeOfStrength() {
        C.by("STRENGTH (1 to 40)");
        range(1, 1, 40);
    }

    private static void rangeOfPatience() {
        C.by("PATIENCE (0 to 40)");
        range(2, 0, 40);
    }

    private static void rangeOfTired() {
        C.by("TIRED (0 to 99; 0 at first)");
        Stone x = new Stone();
        x.person(0, 0, 1, 0);
        x.person(5, 0, 1, 0);
        for (int p = 0; p < 2; p++) {
            C.due("at first", x.personOf(p, 4), 0);
            C.due("tire(99)", x.tire(p, 99), 0);
            C.due("tire(100)", x.tire(p, 100), -6);
            C.due("TIRED stays", x.personOf(p, 4), 99);
            C.due("tire(98)", x.tire(p, 98), 99);
            C.due("tire(0)", x.tire(p, 0), 98);
            C.due("tire(-1)", x.tire(p, -1), -6);
            C.due("tire(MIN)", x.tire(p, MIN), -6);
            C.due("tire(MAX)", x.tire(p, MAX), -6);
            C.due("TIRED stays", x.personOf(p, 4), 0);
            C.due("tire(1)", x.tire(p, 1), 0);
        }
        C.due("tire nobody", x.tire(2, 1), -1);
        C.due("tire NONE", x.tire(-1, 1), -1);
        C.due("TIRED together", x.status(7), 2);
        C.refused(x, 2, 0, 0, 0, 0, 8, 0);
    }

    private static void tiredAtFirst() {
        C.by("TIRED (0 to 99; 0 at first)");
        Stone x = new Stone();
        x.image();
        x.person(5, 9, 40, 40);
        x.tire(0, 99);
        x.restore();
        C.due("another one in his place", x.person(0, 0, 1, 0), 0);
        int[] due = {0, 0, 1, 0, 0};
        for (int what = 0; what < due.length; what++) {
            C.due("personOf(0, " + what + ")", x.personOf(0, what), due[what]);
        }
        x.tire(0, 50);
        x.restore();
        x.text(0, "person 3 4 5 6");
        x.vow(0);
        int[] told = {3, 4, 5, 6, 0};
        for (int what = 0; what < told.length; what++) {
            C.due("told by a VOW: personOf(0, " + what + ")", x.personOf(0, what), told[what]);
        }
    }

    private static void paceAndToilAndLimit() {
        C.by("5 PACE, 6 TOIL, 7 LIMIT. -5: no such one, another what.");
        Stone x = new Stone();
        for (int kind = 0; kind < 7; kind++) {
            x.person(kind, 3, 10, 10);
        }
        int[] pace = {2, 2, 2, 2, 1, 2, 1};
        int[] toil = {2, 2, 1, 5, 2, 1, 2};
        int[] limit = {10, 20, 10, 20, 10, 10, 13};
        for (int p = 0; p < 7; p++) {
            C.due("PACE of " + p, x.personOf(p, 5), pace[p]);
            C.due("TOIL of " + p, x.personOf(p, 6), toil[p]);
            C.due("LIMIT of " + p, x.personOf(p, 7), limit[p]);
            C.due("no eighth what", x.personOf(p, 8), -5);
            C.due("no what -1", x.personOf(p, -1), -5);
        }
        C.due("nobody", x.personOf(7, 7), -5);
        C.due("nobody", x.personOf(-1, 7), -5);
        C.refused(x, 0, 0, 0, 0, 16, 0, 0);
    }
}
