/** What told ROWS tell, and by whom and what OVER is when; promises 23 to 31 at their edges. */
public final class EdgesOfTellings {
    private static final Checks C = new Checks();
    private static final int MIN = Integer.MIN_VALUE;
    private static final int MAX = Integer.MAX_VALUE;

    public static void main(String[] args) {
        casesOfNone();
        casesOfOne();
        casesOfForty();
        casesThatClash();
        casesOnlyTheFirst();
        clashIsTheFirst();
        borneByWhom();
        borneByNobody();
        borneHowMany();
        borneFromDoneOn();
        borneAllElseAsItIs();
        withoutWhom();
        withoutTheBearer();
        withoutHisSighs();
        withoutWhereNoneIsLatest();
        withoutIsNeverWithAll();
        weightsByWhich();
        weightsOfAll();
        praiseTillLater();
        praiseNoneNow();
        praiseNever();
        praiseSoonerAgain();
        talkHowMany();
        talkThatCantBe();
        behindTheTalk();
        behindOrInTruth();
        C.end("EdgesOfTellings");
    }

    private static void casesOfNone() {
        C.by("CASES by the first n twos (0 to 40) of the ROW in SHELF s: least RULE (what 0), greatest "
            + "(1); NONE.");
        Stone x = new Stone();
        x.row(0, 2, 0);
        C.due("none told: least", x.cases(0, 0, 0), 0);
        C.due("none told: greatest", x.cases(0, 0, 1), 31);
        C.due("none told: no clash", x.clash(0, 0), -1);
        C.due("one is not there", x.cases(0, 1, 0), -15);
        x.numbers(0, 9);
        C.due("what is told is no matter", x.cases(0, 0, 0), 0);
        C.due("half a two is none", x.cases(0, 1, 0), -15);
        C.due("half a two is none", x.clash(0, 1), -15);
        C.due("less than none", x.cases(0, -1, 0), -14);
        C.due("less than none", x.clash(0, -1), -14);
        C.due("no third what", x.cases(0, 0, 2), -15);
        C.due("no what -1", x.cases(0, 0, -1), -15);
        C.refused(x, 0, 0, 0, 2, 5, 0, 0);
    }

    private static void casesOfOne() {
        C.by("CASES, a ROW of twos (a SORT, whether it counted: 1, 0): least RULE (bits) that fits; "
            + "greatest RULE");
        for (int sort = 0; sort < 5; sort++) {
            Stone x = new Stone();
            x.ask(2, 10);
            x.numbers(0, sort, 1, sort, 0);
            C.due("counted: least", x.cases(0, 1, 0), 1 << sort);
            C.due("counted: greatest", x.cases(0, 1, 1), 31);
            x.numbers(0, sort, 0, sort, 1);
            C.due("free: least", x.cases(0, 1, 0), 0);
            C.due("free: greatest", x.cases(0, 1, 1), 31 - (1 << sort));
            C.due("both: least", x.cases(0, 2, 0), -1);
            C.due("both: greatest", x.cases(0, 2, 1), -1);
            C.due("both", x.clash(0, 2), 1);
            C.due("RULE stays", x.status(6), 10);
        }
        Stone x = new Stone();
        x.numbers(0, 0, 1, 1, 1, 2, 1, 3, 1, 4, 1);
        C.due("all counted", x.cases(0, 5, 0), 31);
        C.due("all counted", x.cases(0, 5, 1), 31);
        x.numbers(0, 0, 0, 1, 0, 2, 0, 3, 0, 4, 0);
        C.due("all free", x.cases(0, 5, 0), 0);
        C.due("all free", x.cases(0, 5, 1), 0);
        int[][] mayNot = {{-1, 0}, {5, 0}, {5, 1}, {0, -1}, {0, 2}, {4, 2}, {32, 0}, {MAX, 0},
            {MIN, 0}, {0, MAX}, {0, MIN}, {8, 1}};
        for (int[] two : mayNot) {
            x.numbers(0, two);
            C.due("no SORT, neither 0 nor 1", x.cases(0, 1, 0), -16);
            C.due("no SORT, neither 0 nor 1", x.clash(0, 1), -16);
        }
        C.refused(x, 0, 0, 0, 0, 0, 24, 0);
    }

    private static void casesOfForty() {
        C.by("-16 n above 40");
        Stone x = new Stone();
        x.row(0, 0, 160);
        for (int i = 0; i < 40; i++) {
            x.set(0, 2 * i, i % 5);
            x.set(0, 2 * i + 1, i % 5 % 2);
        }
        x.set(0, 80, 9);
        C.due("39: least", x.cases(0, 39, 0), 10);
        C.due("40: least", x.cases(0, 40, 0), 10);
        C.due("40: greatest", x.cases(0, 40, 1), 10);
        C.due("40: no clash", x.clash(0, 40), -1);
        x.set(0, 79, 0);
        x.set(0, 78, 3);
        C.due("the fortieth clashes", x.clash(0, 40), 39);
        C.due("the fortieth clashes", x.cases(0, 40, 0), -1);
        C.due("39 don't", x.clash(0, 39), -1);
        x.set(0, 79, 2);
        C.due("the fortieth is neither", x.clash(0, 40), -16);
        C.due("39 may be", x.cases(0, 39, 1), 10);
        C.due("41", x.cases(0, 41, 0), -16);
        C.due("41", x.clash(0, 41), -16);
        C.due("80", x.cases(0, 80, 0), -16);
        C.due("81 are not there", x.cases(0, 81, 0), -15);
        C.due("81 are not there", x.clash(0, 81), -15);
        x.row(1, 0, 80);
        C.due("40 of 80 elements", x.cases(1, 40, 1), 30);
        C.due("41 of 80 elements", x.cases(1, 41, 1), -15);
        x.row(1, 0, 79);
        C.due("40 of 79 elements", x.cases(1, 40, 1), -15);
        C.due("39 of 79 elements", x.cases(1, 39, 1), 30);
        C.refused(x, 0, 0, 0, 0, 4, 4, 0);
    }

    private static void casesThatClash() {
        C.by("NONE: they clash.");
        Stone x = new Stone();
        x.numbers(0, 0, 1, 1, 0, 0, 1, 1, 0, 1, 1, 0, 0);
        for (int n = 0; n <= 6; n++) {
            C.due("least of " + n, x.cases(0, n, 0), n > 4 ? -1 : n == 0 ? 0 : 1);
            C.due("greatest of " + n, x.cases(0, n, 1), n > 4 ? -1 : n < 2 ? 31 : 29);
        }
        C.refused(x, 0, 0, 0, 0, 0, 0, 0);
    }

    private static void casesOnlyTheFirst() {
        C.by("by the first n twos (0 to 40)");
        Stone x = new Stone();
        x.numbers(0, 2, 1, 3, 0, 9, 9);
        C.due("one", x.cases(0, 1, 0), 4);
        C.due("one", x.cases(0, 1, 1), 31);
        C.due("two", x.cases(0, 2, 0), 4);
        C.due("two", x.cases(0, 2, 1), 23);
        C.due("three", x.cases(0, 3, 0), -16);
    }

    private static void clashIsTheFirst() {
        C.by("CLASH: the first two that goes against one ahead; NONE.");
        int[][] rows = {{0, 1}, {0, 1, 0, 1}, {0, 1, 0, 0}, {0, 0, 0, 1}, {0, 1, 1, 0, 1, 1},
            {0, 1, 1, 0, 0, 0, 1, 1}, {4, 0, 3, 0, 2, 0, 1, 0, 0, 0, 4, 1},
            {2, 1, 2, 1, 2, 1, 2, 0, 2, 1}, {0, 1, 1, 1, 0, 0}, {0, 0, 1, 0, 0, 1},
            {4, 1, 3, 1, 2, 1, 1, 1, 0, 1, 4, 0}, {0, 1, 1, 0, 2, 1, 3, 0, 4, 1}};
        int[] due = {-1, -1, 1, 1, 2, 2, 5, 3, 2, 2, 5, -1};
        Stone x = new Stone();
        for (int r = 0; r < rows.length; r++) {
            x.numbers(0, rows[r]);
            C.due("row " + r, x.clash(0, rows[r].length / 2), due[r]);
            boolean clash = due[r] >= 0;
            C.due("they clash, row " + r, x.cases(0, rows[r].length / 2, 0) == -1 ? 1 : 0,
                clash ? 1 : 0);
        }
        C.refused(x, 0, 0, 0, 0, 0, 0, 0);
    }

    /** WALKERS of PACE 2, 1, 4, 4; nobody SIGHS. */
    private static Stone paces() {
        Stone x = new Stone();
        int[] strengths = {10, 5, 20, 24};
        for (int strength : strengths) {
            x.person(Stone.WALKER, 0, strength, 40);
        }
        return x;
    }

    private static void borneByWhom() {
        C.by("who may be BEARER now (bits; 2 to the number of PEOPLE: nobody), all else as it is.");
        Stone x = paces();
        int[][] rows = {{2, 4, 6}, {1, 2, 3}, {4, 8, 12}, {0, 0, 0}, {2, 4, 7}, {3, 4, 6}, {2, 5, 6},
            {-2, -4, -6}, {0, 0, 1}};
        int[] due = {1, 2, 12, 16, 0, 0, 0, 0, 0};
        for (int r = 0; r < rows.length; r++) {
            x.numbers(0, rows[r]);
            C.due("row " + r, x.borne(0, 3), due[r]);
        }
        x.ask(1, 2);
        x.numbers(0, 2, 2);
        C.due("WAY at most", x.borne(0, 2), 13);
        x.numbers(0, 1, 2);
        C.due("one by one", x.borne(0, 2), 2);
        x.ask(1, 0);
        x.numbers(0, 0, 0);
        C.due("at the end, anybody or nobody", x.borne(0, 2), 31);
    }

    private static void borneByNobody() {
        C.by("2 to the number of PEOPLE: nobody");
        Stone x = new Stone();
        x.row(0, 2, 160);
        for (int p = 0; p <= 7; p++) {
            C.due("it lies with " + p, x.borne(0, 40), 1 << p);
            x.person(Stone.WALKER, 0, 1, 40);
        }
        x.set(0, 0, 1);
        x.set(0, 1, 2);
        C.due("all of seven", x.borne(0, 2), 127);
        C.due("none", x.borne(0, 3), 0);
    }

    private static void borneHowMany() {
        C.by("BORNE by the first n elements (1 to 40) of the ROW in SHELF s.");
        Stone x = new Stone();
        x.person(Stone.DEAF, 0, 1, 0);
        x.row(0, 1, 41);
        for (int i = 0; i < 40; i++) {
            x.set(0, i, i + 1);
        }
        C.due("one", x.borne(0, 1), 1);
        C.due("39", x.borne(0, 39), 1);
        C.due("40", x.borne(0, 40), 1);
        C.due("41", x.borne(0, 41), -6);
        C.due("42 are not there", x.borne(0, 42), -5);
        C.due("none", x.borne(0, 0), -6);
        C.due("-1", x.borne(0, -1), -4);
        x.set(0, 39, 41);
        C.due("the fortieth is another", x.borne(0, 40), 0);
        C.due("39", x.borne(0, 39), 1);
        x.row(1, 1, 40);
        C.due("all of 40", x.borne(1, 40), 2);
        C.due("41 of 40", x.borne(1, 41), -5);
        C.refused(x, 0, 0, 0, 1, 2, 2, 0);
    }

    private static void borneFromDoneOn() {
        C.by("BORNE by a told ROW: DONE less DONE now behind 1, 2, .. STEPS");
        Stone x = paces();
        x.give(2);
        x.steps(3);
        x.numbers(0, 2, 4, 6);
        C.due("DONE is 12 now", x.borne(0, 3), 1);
        x.numbers(0, 14, 16, 18);
        C.due("not DONE whole", x.borne(0, 3), 0);
        x.ask(1, 14);
        x.numbers(0, 2, 2);
        C.due("two are left", x.borne(0, 2), 13);
        C.due("BEARER stays", x.status(4), 2);
        C.due("DONE stays", x.status(3), 12);
    }

    private static void borneAllElseAsItIs() {
        C.by("all else as it is.");
        Stone x = new Stone();
        x.person(Stone.WALKER, 0, 10, 0);
        x.person(Stone.WALKER, 0, 5, 40);
        x.tire(0, 2);
        x.numbers(0, 1, 3);
        C.due("1, then 0 by a sigh", x.borne(0, 2), 2);
        x.numbers(0, 2, 4);
        C.due("0 all along", x.borne(0, 2), 1);
        x.tire(0, 3);
        x.numbers(0, 0, 2);
        C.due("nobody, then 0 by a sigh", x.borne(0, 2), 4);
        x.ask(2, 30);
        C.due("a sigh is free", x.borne(0, 2), 0);
        x.numbers(0, 1, 2);
        C.due("1 all along", x.borne(0, 2), 2);
        x.ask(0, 5);
        x.numbers(0, 8, 16);
        C.due("by the WEIGHT now: 0", x.borne(0, 2), 1);
        x.numbers(0, 4, 8);
        C.due("by the WEIGHT now: 1", x.borne(0, 2), 2);
    }

    private static void withoutWhom() {
        C.by("WITHOUT: the one without whom OVER is soonest");
        Stone x = new Stone();
        C.due("nobody", x.without(), -5);
        x.person(Stone.WALKER, 0, 40, 40);
        C.due("one", x.without(), 0);
        x.give(0);
        C.due("one, who bears it", x.without(), 0);
        x.give(-1);
        x.person(Stone.WALKER, 0, 1, 0);
        x.person(Stone.WALKER, 0, 5, 0);
        x.give(0);
        C.due("nobody SIGHS: without 0 it lies", x.without(), 1);
        x.tire(2, 9);
        C.due("without 2 it comes soonest", x.without(), 2);
        x.tire(1, 9);
        C.due("2 takes it first, then 1: without either the other does", x.without(), 1);
        x.tire(2, 0);
        C.due("without 1", x.without(), 1);
        C.due("nothing but one REFUSAL", x.status(15), 1);
    }

    private static void withoutTheBearer() {
        C.by("as if his sighs were nothing, and he isn't BEARER");
        Stone x = new Stone();
        x.person(Stone.WALKER, 0, 1, 40);
        x.person(Stone.WALKER, 0, 40, 0);
        x.give(0);
        x.tire(1, 8);
        C.due("1 takes it: without 0 it comes soonest, 1 SIGHS at once", x.without(), 0);
        x.tire(1, 2);
        C.due("without 0 it lies, 1 SIGHS no more", x.without(), 1);
        x.give(1);
        C.due("without 1 it lies", x.without(), 0);
        x.give(-1);
        C.due("it lies without each", x.without(), 0);
        x.tire(1, 3);
        C.due("1 takes it", x.without(), 0);
    }

    private static void withoutHisSighs() {
        C.by("as if his sighs were nothing");
        Stone x = new Stone();
        x.person(Stone.WALKER, 0, 40, 40);
        x.person(Stone.WALKER, 0, 10, 0);
        x.person(Stone.WALKER, 0, 1, 0);
        x.give(0);
        x.tire(1, 20);
        x.tire(2, 20);
        C.due("without 2, 1 takes it and is swifter", x.without(), 2);
        x.ask(2, 30);
        C.due("no sigh counts: without 0 alone it lies", x.without(), 1);
        x.give(2);
        C.due("without 2 it lies: 0", x.without(), 0);
        x.give(1);
        C.due("without 0 is as soon as without 2", x.without(), 0);
    }

    private static void withoutWhereNoneIsLatest() {
        C.by("(NONE is latest; as if his sighs were nothing, and he isn't BEARER), of several the "
            + "first");
        Stone x = new Stone();
        x.person(Stone.DEAF, 0, 1, 0);
        x.person(Stone.DEAF, 0, 1, 0);
        x.give(0);
        x.ask(1, 200);
        C.due("200 without 1", x.without(), 1);
        x.ask(1, 201);
        C.due("NONE without each", x.without(), 0);
        x.ask(1, 0);
        C.due("0 without each", x.without(), 0);
        x.give(1);
        C.due("0 without each", x.without(), 0);
        x.ask(1, 200);
        C.due("200 without 0", x.without(), 0);
        for (int p = 2; p < 7; p++) {
            x.person(Stone.DEAF, 0, 1, 0);
        }
        x.give(0);
        C.due("200 without 1 to 6", x.without(), 1);
        Stone y = new Stone();
        for (int p = 0; p < 7; p++) {
            y.person(Stone.WALKER, 0, p == 6 ? 1 : 40, p == 6 ? 0 : 40);
        }
        y.give(0);
        y.tire(6, 99);
        C.due("the last of seven", y.without(), 6);
    }

    /** With both it would be there a STEP sooner than without either. */
    private static void withoutIsNeverWithAll() {
        C.by("the one without whom OVER is soonest");
        Stone x = new Stone();
        x.person(Stone.WALKER, 0, 1, 40);
        x.person(Stone.WALKER, 0, 40, 0);
        x.ask(1, 97);
        x.give(0);
        x.tire(1, 8);
        C.due("1, then 96 by the strong one", x.over(), 13);
        C.due("without 0 it lies for one STEP", x.without(), 0);
        x.ask(1, 1);
        C.due("one", x.over(), 1);
        C.due("without 1 it is there as soon", x.without(), 1);
        x.ask(1, 3);
        C.due("two", x.over(), 2);
        C.due("without 0 in two, without 1 in three", x.without(), 0);
    }

    private static void weightsByWhich() {
        C.by("WEIGHTS (how many of 1 to 99) by which OVER is told t; the least; NONE.");
        Stone x = new Stone();
        x.person(Stone.DEAF, 0, 10, 0);
        x.give(0);
        int[][] due = {{0, 0, -1}, {11, 0, -1}, {12, 4, 1}, {13, 1, 5}, {14, 0, -1}, {15, 0, -1},
            {17, 1, 6}, {20, 2, 7}, {25, 2, 9}, {34, 3, 11}, {50, 7, 14}, {51, 0, -1}, {99, 0, -1},
            {100, 79, 21}, {101, 0, -1}, {200, 0, -1}};
        for (int[] d : due) {
            C.due("weights(" + d[0] + ", 0)", x.weights(d[0], 0), d[1]);
            C.due("weights(" + d[0] + ", 1)", x.weights(d[0], 1), d[2]);
        }
        C.due("WEIGHT stays", x.status(1), 20);
        C.due("201", x.weights(201, 0), -16);
        C.due("-1", x.weights(-1, 1), -16);
        C.due("no third what", x.weights(200, 2), -15);
        C.due("no what -1", x.weights(0, -1), -15);
        C.refused(x, 0, 0, 0, 0, 2, 2, 0);
    }

    private static void weightsOfAll() {
        C.by("WEIGHTS (how many of 1 to 99)");
        Stone x = new Stone();
        C.due("it lies", x.weights(200, 0), 0);
        C.due("it lies", x.weights(200, 1), -1);
        x.ask(1, 0);
        C.due("it is there", x.weights(0, 0), 99);
        C.due("it is there", x.weights(0, 1), 1);
        C.due("not later", x.weights(1, 0), 0);
        C.due("not later", x.weights(1, 1), -1);
        x.ask(1, 200);
        x.person(Stone.DEAF, 0, 1, 0);
        x.give(0);
        C.due("PACE 1: 3 to 99", x.weights(200, 0), 97);
        C.due("PACE 1: 3 to 99", x.weights(200, 1), 3);
        C.due("PACE 4: 1", x.weights(50, 0), 1);
        C.due("PACE 4: 1", x.weights(50, 1), 1);
        x.ask(1, 201);
        C.due("201 STEPS are NONE", x.weights(200, 0), 0);
        x.person(Stone.DEAF, 0, 40, 0);
        x.give(1);
        x.ask(1, 9);
        C.due("PACE 9: 1 to 17", x.weights(1, 0), 17);
        x.ask(1, 2);
        C.due("PACE 2 and above: 1 to 80", x.weights(1, 0), 80);
        C.due("PACE 1: 81 to 99", x.weights(2, 0), 19);
        C.due("PACE 1: 81 to 99", x.weights(2, 1), 81);
    }

    /** PACE is 2 by WEIGHT 14 to 20, 1 by 21 and more; so OVER is 50, 100. */
    private static Stone praised(int weight) {
        Stone x = new Stone();
        x.person(Stone.DEAF, 0, 10, 0);
        x.give(0);
        x.ask(0, weight);
        return x;
    }

    private static void praiseTillLater() {
        C.by("PRAISE: how often it may be praised till OVER is later than t STEPS (0 to 99");
        C.due("from 20", praised(20).praise(50), 1);
        C.due("from 14", praised(14).praise(50), 7);
        C.due("from 14, till 100", praised(14).praise(99), 7);
        C.due("from 1", praised(1).praise(99), 20);
        C.due("from 1", praised(1).praise(12), 4);
        for (int t = 50; t < 100; t++) {
            C.due("OVER is 50 or 100, t " + t, praised(19).praise(t), 2);
        }
        Stone x = praised(19);
        int times = x.praise(60);
        for (int i = 0; i < times; i++) {
            C.due("not later yet", x.over() <= 60 ? 1 : 0, 1);
            x.say(0, 1);
        }
        C.due("later", x.over(), 100);
        C.due("by so many", x.status(1), 21);
        x = new Stone();
        x.person(Stone.DEAF, 0, 40, 0);
        x.give(0);
        x.ask(0, 1);
        x.ask(1, 2);
        C.due("the most: from 1 to 81", x.praise(1), 80);
        x.ask(1, 201);
        C.due("OVER is NONE by 81 alone", x.praise(200), 80);
        x.ask(1, 202);
        C.due("OVER is 101 by 80", x.praise(100), 53);
    }

    private static void praiseNoneNow() {
        C.by("NONE: it is so now, or never");
        C.due("later now", praised(20).praise(49), -1);
        C.due("not later now", praised(20).praise(50), 1);
        C.due("later now", praised(21).praise(99), -1);
        C.due("later now", praised(20).praise(0), -1);
        Stone x = new Stone();
        C.due("it lies", x.praise(200), -1);
        C.due("it lies", x.praise(0), -1);
        x.person(Stone.DEAF, 0, 1, 0);
        x.give(0);
        x.ask(1, 201);
        C.due("NONE is later", x.praise(200), -1);
        C.due("t 201", x.praise(201), -16);
        C.due("t -1", x.praise(-1), -16);
        C.refused(x, 0, 0, 0, 0, 0, 2, 0);
    }

    private static void praiseNever() {
        C.by("NONE: it is so now, or never");
        C.due("never later than 100", praised(20).praise(100), -1);
        C.due("never later than 200", praised(1).praise(200), -1);
        C.due("99 is the most", praised(99).praise(100), -1);
        Stone x = praised(20);
        x.ask(1, 0);
        C.due("it is there", x.praise(0), -1);
        C.due("it is there", x.praise(200), -1);
        x.ask(1, 200);
        C.due("200 is not later than 200", x.praise(200), -1);
        C.due("but than 199", x.praise(199), 1);
        C.due("no REFUSAL", x.status(16), 0);
    }

    /** The strong one has it back by his sigh once his TOIL is 2, from WEIGHT 41 on. */
    private static void praiseSoonerAgain() {
        C.by("PRAISE: how often it may be praised till OVER is later than t STEPS");
        for (int weight = 28; weight < 50; weight++) {
            Stone x = new Stone();
            x.person(Stone.WALKER, 0, 40, 0);
            x.person(Stone.WALKER, 0, 5, 3);
            x.give(0);
            x.tire(1, 5);
            x.ask(1, 40);
            int[] overs = new int[100];
            for (int w = 1; w <= 99; w++) {
                x.ask(0, w);
                overs[w] = x.over();
            }
            C.due("by 40 it is later than by 41", overs[40] > overs[41] ? 1 : 0, 1);
            x.ask(0, weight);
            for (int t = 10; t < 60; t++) {
                int due = overs[weight] > t ? -1 : firstLater(overs, weight, t);
                C.due("praise(" + t + ") from " + weight, x.praise(t), due);
            }
        }
    }

    private static int firstLater(int[] overs, int weight, int t) {
        for (int w = weight + 1; w <= 99; w++) {
            if (overs[w] > t) {
                return w - weight;
            }
        }
        return -1;
    }

    private static void talkHowMany() {
        C.by("A told TALK by the first n elements (0 to 40) of the ROW in SHELF s: WRONG; NONE.");
        Stone x = new Stone();
        x.row(0, 3, 160);
        C.due("none told", x.judge(0, 0), -1);
        C.due("nobody could say it", x.judge(0, 1), 0);
        x.person(0, 0, 1, 0);
        C.due("one", x.judge(0, 1), -1);
        C.due("40", x.judge(0, 40), -1);
        C.due("41", x.judge(0, 41), -16);
        C.due("160", x.judge(0, 160), -16);
        C.due("161", x.judge(0, 161), -15);
        C.due("-1", x.judge(0, -1), -14);
        x.set(0, 39, 6);
        C.due("the fortieth", x.judge(0, 40), 39);
        C.due("39", x.judge(0, 39), -1);
        x.set(0, 0, 10);
        C.due("the first", x.judge(0, 40), 0);
        x.row(1, 0, 40);
        C.due("all of 40", x.judge(1, 40), -1);
        C.due("41 of 40", x.judge(1, 41), -15);
        x.row(1, 0, 0);
        C.due("none of none", x.judge(1, 0), -1);
        C.due("one of none", x.judge(1, 1), -15);
        C.refused(x, 0, 0, 0, 1, 3, 2, 0);
    }

    private static void talkThatCantBe() {
        C.by("A told TALK: a ROW of 10 times the PERSON and the SORT (0 to 5), a STEP behind each: WRONG: "
            + "the first that can't be; NONE.");
        for (int people = 0; people <= 7; people++) {
            Stone x = new Stone();
            for (int p = 0; p < people; p++) {
                x.person(p, 0, 1, 0);
            }
            x.row(0, 2, 1);
            for (int told = -12; told < 82; told++) {
                x.set(0, 0, told);
                boolean can = told >= 0 && told % 10 <= 5 && told / 10 < people;
                C.due(told + " with " + people, x.judge(0, 1), can ? -1 : 0);
            }
            int[] far = {MIN, MAX, MIN + 8, MAX - 7, -2147483640, 100, 1000, -100};
            for (int told : far) {
                x.set(0, 0, told);
                C.due(told + " with " + people, x.judge(0, 1), 0);
            }
        }
    }

    private static void behindTheTalk() {
        C.by("BEHIND it: BEARER (what 0; NONE), DONE (1), WEIGHT (2).");
        Stone x = new Stone();
        x.person(Stone.DEAF, 0, 20, 0);
        x.person(Stone.DEAF, 0, 20, 0);
        x.numbers(0, 5, 5, 1, 11, 12, 15, 16);
        // 0 takes it up, puts it down; praise by 0 (21), by 1 (22); a hint; it is too heavy (23)
        int[][] due = {{-1, 0, 20}, {0, 4, 20}, {-1, 4, 20}, {0, 7, 21}, {1, 10, 22}, {1, 13, 22},
            {1, 16, 23}};
        for (int n = 0; n < due.length; n++) {
            for (int what = 0; what < 3; what++) {
                C.due("behind(0, " + n + ", " + what + ")", x.behind(0, n, what), due[n][what]);
            }
        }
        C.due("WRONG", x.behind(0, 7, 0), -16);
        C.due("not there", x.behind(0, 8, 0), -15);
        C.due("no fourth what", x.behind(0, 0, 3), -15);
        C.due("no what -1", x.behind(0, 0, -1), -15);
        C.due("no what, and WRONG", x.behind(0, 7, 3), -15);
        C.due("less than none", x.behind(0, -1, 3), -14);
        x.row(1, 0, 160);
        C.due("40", x.behind(1, 40, 1), 100);
        C.due("41", x.behind(1, 41, 1), -16);
        x.ask(0, 98);
        x.numbers(0, 1, 1, 1);
        C.due("99 at most", x.behind(0, 3, 2), 99);
        x.ask(1, 999);
        C.due("40 STEPS", x.behind(1, 40, 1), 40);
        C.due("STEPS stay", x.status(5), 0);
        C.refused(x, 0, 0, 0, 1, 4, 2, 0);
    }

    private static void behindOrInTruth() {
        C.by("It comes to pass in truth: DONE.");
        int[] talk = {0, 11, 25, 3, 14, 5, 22, 21, 1, 12, 5, 5, 25, 25};
        for (int n = 0; n <= talk.length; n++) {
            Stone x = new Stone();
            x.person(Stone.WALKER, 0, 24, 3);
            x.person(Stone.CLERK, 2, 9, 2);
            x.person(Stone.BISHOP, 1, 12, 1);
            x.numbers(0, talk);
            int bearer = x.behind(0, n, 0);
            int done = x.behind(0, n, 1);
            int weight = x.behind(0, n, 2);
            C.due("done(0, " + n + ")", x.done(0, n), done);
            C.due("BEARER", x.status(4), bearer);
            C.due("DONE", x.status(3), done);
            C.due("WEIGHT", x.status(1), weight);
            C.due("STEPS", x.status(5), n);
            Stone y = new Stone();
            y.person(Stone.WALKER, 0, 24, 3);
            y.person(Stone.CLERK, 2, 9, 2);
            y.person(Stone.BISHOP, 1, 12, 1);
            for (int i = 0; i < n; i++) {
                y.say(talk[i] / 10, talk[i] % 10);
                y.steps(1);
            }
            for (int what = 0; what < 9; what++) {
                C.due("status(" + what + ")", x.status(what), y.status(what));
            }
        }
    }
}
