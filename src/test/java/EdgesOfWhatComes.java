/** 3. WHAT COMES OF IT, at its edges: AHEAD, OVER, ALONE, RELAY, HINTED, READY; promises 16 to 22. */
public final class EdgesOfWhatComes {
    private static final Checks C = new Checks();

    public static void main(String[] args) {
        nothingIsChanged();
        aheadHowFar();
        aheadNobodySaying();
        tiredAhead();
        overHowFar();
        overWithSighs();
        aloneToTheWay();
        aloneNobodyElse();
        aloneToTheLimit();
        aloneTheLongest();
        aloneWayIsNoMatter();
        hinted();
        ready();
        relayLegs();
        relayTiredAtMost();
        relayOthersRest();
        relayAtTheEndOfTheWay();
        relayNobodySighing();
        relayGreatest();
        relayFirstByRows();
        relayNoneThere();
        C.end("EdgesOfWhatComes");
    }

    private static void tells(String call, Scene.Call made) {
        long once = made.on(Scene.four().x);
        C.due(call + " is told, not refused", once < -1 ? 1 : 0, 0);
        Scene.four().tells(C, call, made, once);
        Scene full = Scene.full();
        long twice = made.on(full.x);
        full.tells(C, call + " again", made, twice);
    }

    private static void nothingIsChanged() {
        C.by("==== 3. WHAT COMES OF IT (nothing is changed)");
        tells("sighs(0)", x -> x.sighs(0));
        tells("sighs(1)", x -> x.sighs(1));
        for (int one = 0; one < 4; one++) {
            int p = one;
            tells("ready(" + p + ")", x -> x.ready(p));
            tells("tired(" + p + ", 60)", x -> x.tired(p, 60));
            tells("alone(" + p + ", 0)", x -> x.alone(p, 0));
            tells("alone(" + p + ", 1)", x -> x.alone(p, 1));
            tells("personOf(" + p + ", 4)", x -> x.personOf(p, 4));
        }
        tells("ahead(60, 0)", x -> x.ahead(60, 0));
        tells("ahead(60, 1)", x -> x.ahead(60, 1));
        tells("over()", x -> x.over());
        tells("relay(3, 7, -1)", x -> x.relay(3, 7, -1));
        tells("relay(2, 20, 1)", x -> x.relay(2, 20, 1));
        tells("cases", x -> x.cases(Scene.CASES, 2, 0));
        tells("cases", x -> x.cases(Scene.LONGS, 40, 1));
        tells("clash", x -> x.clash(Scene.CASES, 2));
        tells("borne", x -> x.borne(Scene.LONGS, 40));
        tells("without()", x -> x.without());
        tells("weights(60, 0)", x -> x.weights(60, 0));
        tells("weights(60, 1)", x -> x.weights(60, 1));
        tells("praise(60)", x -> x.praise(60));
        tells("praise(200)", x -> x.praise(200));
        tells("judge", x -> x.judge(Scene.TALK, 4));
        tells("behind", x -> x.behind(Scene.TALK, 4, 0));
        tells("behind", x -> x.behind(Scene.TALK, 4, 1));
        tells("behind", x -> x.behind(Scene.TALK, 4, 2));
    }

    /** The STRENGTHS are those of DEAF ones of PATIENCE 40; so nobody SIGHS. */
    private static Stone deaf(int... strengths) {
        Stone x = new Stone();
        for (int strength : strengths) {
            x.person(Stone.DEAF, 0, strength, 40);
        }
        return x;
    }

    private static void aheadHowFar() {
        C.by("AHEAD n STEPS (0 to 60)");
        Stone x = deaf(1, 1);
        x.ask(1, 999);
        C.due("it lies", x.ahead(0, 0), -1);
        C.due("it lies", x.ahead(60, 0), -1);
        C.due("it lies", x.ahead(60, 1), 0);
        x.give(1);
        int[] may = {0, 1, 2, 30, 59, 60};
        for (int n : may) {
            C.due("ahead(" + n + ", 0)", x.ahead(n, 0), 1);
            C.due("ahead(" + n + ", 1)", x.ahead(n, 1), n);
        }
        C.due("ahead(61, 1)", x.ahead(61, 1), -16);
        C.due("ahead(-1, 1)", x.ahead(-1, 1), -16);
        C.due("ahead(61, 0)", x.ahead(61, 0), -16);
        C.due("ahead(-1, 0)", x.ahead(-1, 0), -16);
        C.due("ahead(0, 2)", x.ahead(0, 2), -15);
        C.due("ahead(0, -1)", x.ahead(0, -1), -15);
        x.steps(7);
        C.due("from DONE on", x.ahead(0, 1), 7);
        C.due("from DONE on", x.ahead(60, 1), 67);
        Stone nobody = new Stone();
        C.due("nobody", nobody.ahead(60, 0), -1);
        C.due("nobody", nobody.ahead(60, 1), 0);
        C.refused(x, 0, 0, 0, 0, 2, 4, 0);
    }

    private static void aheadNobodySaying() {
        C.by("nobody saying anything: BEARER then, DONE, TIRED of one.");
        Stone x = new Stone();
        x.person(Stone.WALKER, 0, 10, 4);
        x.person(Stone.WALKER, 0, 20, 8);
        x.give(0);
        for (int n = 0; n <= 60; n++) {
            Stone y = new Stone();
            y.person(Stone.WALKER, 0, 10, 4);
            y.person(Stone.WALKER, 0, 20, 8);
            y.give(0);
            if (n > 0) {
                y.steps(n);
            }
            C.due("BEARER behind " + n, x.ahead(n, 0), y.status(4));
            C.due("DONE behind " + n, x.ahead(n, 1), y.status(3));
            C.due("TIRED of 0 behind " + n, x.tired(0, n), y.personOf(0, 4));
            C.due("TIRED of 1 behind " + n, x.tired(1, n), y.personOf(1, 4));
        }
        x.seed(9);
        x.ahead(60, 1);
        C.due("no draws", x.seed(1), 9);
    }

    private static void tiredAhead() {
        C.by("AHEAD: TIRED of one. -1; -6.");
        Stone x = deaf(20, 20);
        x.ask(1, 999);
        x.tire(1, 99);
        x.give(0);
        C.due("as he is", x.tired(1, 0), 99);
        C.due("behind one", x.tired(1, 1), 98);
        C.due("behind 60", x.tired(1, 60), 39);
        C.due("who bears it", x.tired(0, 60), 60);
        C.due("behind 61", x.tired(1, 61), -6);
        C.due("behind -1", x.tired(1, -1), -6);
        C.due("of nobody", x.tired(2, 0), -1);
        C.due("of NONE", x.tired(-1, 0), -1);
        x.give(-1);
        C.due("it lies", x.tired(1, 49), 1);
        C.due("it lies", x.tired(1, 50), 0);
        C.due("it lies", x.tired(1, 60), 0);
        C.refused(x, 2, 0, 0, 0, 0, 2, 0);
    }

    private static void overHowFar() {
        C.by("OVER: behind how many STEPS (0 to 200) DONE is WAY; NONE.");
        int[][] due = {{0, 0}, {1, 1}, {2, 2}, {199, 199}, {200, 200}, {201, -1}, {999, -1}};
        for (int[] d : due) {
            Stone x = deaf(1);
            x.ask(1, d[0]);
            C.due("it lies, WAY " + d[0], x.over(), d[0] == 0 ? 0 : -1);
            x.give(0);
            C.due("PACE 1, WAY " + d[0], x.over(), d[1]);
        }
        Stone x = deaf(1);
        x.give(0);
        x.ask(1, 260);
        x.steps(59);
        C.due("201 are left", x.over(), -1);
        x.steps(1);
        C.due("200 are left", x.over(), 200);
        x.ask(1, 60);
        C.due("none is left", x.over(), 0);
        x.ask(0, 1);
        x.ask(1, 68);
        C.due("PACE 4: 8 are left", x.over(), 2);
        x.ask(1, 69);
        C.due("PACE 4: 9 are left", x.over(), 3);
        C.due("nobody", new Stone().over(), -1);
    }

    private static void overWithSighs() {
        C.by("OVER: behind how many STEPS (0 to 200) DONE is WAY");
        Stone x = new Stone();
        x.person(Stone.WALKER, 0, 40, 10);
        x.person(Stone.DEAF, 0, 1, 0);
        x.ask(1, 10);
        x.ask(0, 1);
        x.tire(0, 13);
        C.due("he has it behind one, 9, then 1 by the next", x.over(), 3);
        x.tire(0, 12);
        C.due("it lies for ever", x.over(), -1);
        x.give(1);
        C.due("4 by the DEAF, then 6 by him", x.over(), 2);
        x.ask(2, 30);
        C.due("a sigh is free: 4, 4, 2", x.over(), 3);
        x.tire(0, 0);
        x.ask(2, 31);
        C.due("nobody SIGHS: 4, 4, 2", x.over(), 3);
    }

    private static void aloneToTheWay() {
        C.by("in how many STEPS DONE is WAY (0 to 999)");
        Stone x = deaf(1, 9, 40);
        int[][] due = {{0, 0, 0, 0}, {1, 1, 1, 1}, {2, 2, 2, 1}, {8, 8, 8, 1}, {9, 9, 9, 2},
            {16, 16, 16, 2}, {17, 17, 17, 3}, {998, 998, 998, 125}, {999, 999, 999, 125}};
        for (int[] d : due) {
            x.ask(1, d[0]);
            for (int p = 0; p < 3; p++) {
                C.due("alone(" + p + ", 0), WAY " + d[0], x.alone(p, 0), d[1 + p]);
            }
        }
        x.ask(0, 9);
        C.due("PACE 4: 999", x.alone(1, 0), 250);
        x.give(0);
        x.steps(3);
        C.due("996 are left", x.alone(0, 0), 996);
        C.due("PACE 4: 996", x.alone(1, 0), 249);
        x.ask(1, 3);
        C.due("it is there", x.alone(0, 0), 0);
    }

    private static void aloneNobodyElse() {
        C.by("ALONE for one: as if he bore it from now on and nobody ever sighed (nobody else is any "
            + "matter)");
        for (int bearer = -1; bearer < 3; bearer++) {
            Stone x = new Stone();
            x.person(Stone.WALKER, 0, 10, 3);
            x.person(Stone.WALKER, 0, 40, 0);
            x.person(Stone.CLERK, 0, 1, 0);
            x.give(bearer);
            for (int tired = 0; tired < 100; tired += 33) {
                x.tire(1, tired);
                x.tire(2, tired);
                C.due("to the WAY", x.alone(0, 0), 50);
                C.due("to the LIMIT", x.alone(0, 1), 2);
            }
            x.tire(0, 99);
            C.due("though he SIGHS", x.alone(0, 0), 50);
        }
    }

    private static void aloneToTheLimit() {
        C.by("how many STEPS till he is above his LIMIT (WAY being no matter; 0: he is; NONE: never in "
            + "100).");
        Stone x = new Stone();
        x.person(Stone.WALKER, 0, 10, 10);
        int[][] due = {{0, 6}, {1, 5}, {8, 2}, {9, 1}, {10, 1}, {11, 0}, {99, 0}};
        for (int[] d : due) {
            x.tire(0, d[0]);
            C.due("TIRED " + d[0] + ", LIMIT 10, TOIL 2", x.alone(0, 1), d[1]);
        }
        Stone y = deaf(20);
        C.due("the DEAF too", y.alone(0, 1), 41);
        y.tire(0, 40);
        C.due("the DEAF too", y.alone(0, 1), 1);
        y.tire(0, 41);
        C.due("the DEAF too", y.alone(0, 1), 0);
        C.due("no third what", y.alone(0, 2), -15);
        C.due("no what -1", y.alone(0, -1), -15);
        C.due("nobody", y.alone(1, 1), -11);
        C.due("NONE", y.alone(-1, 1), -11);
        C.refused(y, 2, 0, 0, 0, 2, 0, 0);
    }

    /** TOIL is 1 at least and no LIMIT is above 80, so 81 is the longest: NONE can't come. */
    private static void aloneTheLongest() {
        C.by("how many STEPS till he is above his LIMIT");
        for (int kind = 0; kind < 7; kind++) {
            Stone x = new Stone();
            x.person(kind, kind == Stone.BISHOP ? 0 : 9, 40, 40);
            x.ask(0, 40);
            C.due("LIMIT and 1", x.alone(0, 1), x.personOf(0, 7) + 1);
        }
        Stone x = new Stone();
        x.person(Stone.PIOUS, 0, 40, 40);
        x.ask(0, 1);
        C.due("the longest", x.alone(0, 1), 81);
        x.tire(0, 79);
        C.due("79: two", x.alone(0, 1), 2);
        x.ask(0, 99);
        C.due("79 and 3: one", x.alone(0, 1), 1);
        x.tire(0, 80);
        C.due("80: one", x.alone(0, 1), 1);
        x.tire(0, 81);
        C.due("81: he is", x.alone(0, 1), 0);
    }

    private static void aloneWayIsNoMatter() {
        C.by("(WAY being no matter; 0: he is; NONE: never in 100)");
        Stone x = new Stone();
        x.person(Stone.WALKER, 0, 10, 10);
        int[] ways = {0, 1, 2, 999};
        for (int way : ways) {
            x.ask(1, way);
            C.due("WAY " + way, x.alone(0, 1), 6);
        }
        x.give(0);
        x.ask(1, 2);
        x.steps(1);
        C.due("at its end", x.alone(0, 1), 5);
        C.due("at its end", x.alone(0, 0), 0);
    }

    private static void hinted() {
        C.by("HINTED: PEOPLE (bits) who would SIGH, if they were 5 more TIRED, and don't now.");
        int[] patience = {0, 3, 4, 5, 40};
        for (int p : patience) {
            for (int kind = 0; kind < 7; kind++) {
                Stone x = new Stone();
                x.person(Stone.DEAF, 0, 1, 0);
                x.person(kind, 9, 10, p);
                int limit = x.personOf(1, 7);
                for (int tired = Math.max(0, limit - 6); tired <= limit + 2; tired++) {
                    x.tire(1, tired);
                    boolean is = tired > limit - 5 && tired <= limit && kind != Stone.DEAF;
                    C.due("LIMIT " + limit + ", TIRED " + tired, x.sighs(1), is ? 2 : 0);
                    boolean sighs = tired > limit && kind != Stone.DEAF;
                    C.due("LIMIT " + limit + ", TIRED " + tired, x.sighs(0), sighs ? 2 : 0);
                }
            }
        }
        Stone x = new Stone();
        C.due("nobody", x.sighs(0), 0);
        C.due("nobody", x.sighs(1), 0);
        for (int p = 0; p < 7; p++) {
            x.person(Stone.WALKER, 0, 10, 0);
        }
        C.due("all places", x.sighs(1), 127);
        C.due("all places", x.sighs(0), 0);
        for (int p = 0; p < 7; p++) {
            x.tire(p, 1);
        }
        C.due("all places", x.sighs(1), 0);
        C.due("all places", x.sighs(0), 127);
        x.ask(2, 0);
        x.give(6);
        C.due("RULE and BEARER are no matter", x.sighs(0), 127);
        for (int p = 0; p < 7; p++) {
            x.tire(p, 0);
        }
        C.due("RULE and BEARER are no matter to a hint", x.sighs(1), 127);
        C.due("nobody SIGHS by the hint", x.sighs(0), 0);
        C.due("what 2", x.sighs(2), -5);
        C.due("what -1", x.sighs(-1), -5);
    }

    private static void ready() {
        C.by("READY: how much more TIRED one must be till he SIGHS (0: he does; NONE: never).");
        Stone x = new Stone();
        x.person(Stone.PIOUS, 0, 1, 40);
        x.person(Stone.CLERK, 9, 1, 40);
        x.person(Stone.WALKER, 0, 1, 0);
        x.person(Stone.DEAF, 0, 1, 0);
        int[] limit = {80, 49, 0};
        for (int p = 0; p < 3; p++) {
            int[] tired = {0, limit[p] / 2, limit[p], limit[p] + 1, 99};
            for (int t : tired) {
                x.tire(p, t);
                C.due("ready(" + p + "), TIRED " + t, x.ready(p), Math.max(0, limit[p] + 1 - t));
            }
        }
        C.due("the DEAF", x.ready(3), -1);
        x.tire(3, 99);
        C.due("the DEAF", x.ready(3), -1);
        C.due("nobody", x.ready(4), -11);
        C.due("NONE", x.ready(-1), -11);
        C.refused(x, 2, 0, 0, 0, 0, 0, 0);
    }

    private static void relayLegs() {
        C.by("RELAY of k legs (1 to 4), each of m STEPS (1 to 20)");
        for (int k = 1; k <= 4; k++) {
            for (int m = 1; m <= 20; m++) {
                Stone x = deaf(20);
                x.ask(1, 999);
                x.ask(0, 20);
                C.due("relay(" + k + ", " + m + ")", x.relay(k, m, -1), k * m > 50 ? -1 : 4 * k * m);
                for (int i = 0; i < k; i++) {
                    C.due("leg " + i, x.relay(k, m, i), k * m > 50 ? -1 : 0);
                }
                C.due("no leg " + k, x.relay(k, m, k), -15);
                C.due("no leg -2", x.relay(k, m, -2), -15);
                C.due("m 0", x.relay(k, 0, -1), -16);
                C.due("m 21", x.relay(k, 21, k - 1), -16);
            }
        }
        Stone x = deaf(20);
        C.due("k 0", x.relay(0, 1, -1), -16);
        C.due("k 5", x.relay(5, 1, -1), -16);
        C.due("k 0, no leg", x.relay(0, 1, 0), -16);
        C.due("k 5, no leg", x.relay(5, 1, 5), -16);
        C.due("k -1", x.relay(-1, 1, -1), -16);
        C.refused(x, 0, 0, 0, 0, 0, 5, 0);
    }

    private static void relayTiredAtMost() {
        C.by("so that nobody's TIRED is ever above 50 behind a STEP");
        Stone x = deaf(20);
        for (int tired = 45; tired <= 52; tired++) {
            x.tire(0, tired);
            for (int m = 1; m <= 6; m++) {
                C.due("TIRED " + tired + ", STEPS " + m, x.relay(1, m, -1),
                    tired + m > 50 ? -1 : 4 * m);
            }
        }
        Stone y = new Stone();
        y.person(Stone.WALKER, 0, 1, 0);
        y.ask(0, 50);
        C.due("50 by one STEP", y.relay(1, 1, -1), 1);
        C.due("100 by two", y.relay(1, 2, -1), -1);
        y.ask(0, 51);
        C.due("51 by one STEP", y.relay(1, 1, -1), -1);
        C.due("51 by one STEP", y.relay(1, 1, 0), -1);
    }

    private static void relayOthersRest() {
        C.by("(others rest as told)");
        Stone x = deaf(20, 20);
        x.tire(1, 51);
        C.due("behind the first STEP he is 50", x.relay(1, 1, -1), 4);
        C.due("0 bears it", x.relay(1, 1, 0), 0);
        C.due("then 1 is 51 again", x.relay(2, 1, 1), 0);
        x.tire(1, 52);
        C.due("behind the first STEP he is 51", x.relay(1, 1, -1), -1);
        C.due("though less at the end of the leg", x.relay(1, 5, -1), -1);
        C.due("and at the end of the last leg", x.relay(2, 10, -1), -1);
        x.tire(1, 51);
        C.due("behind each STEP less", x.relay(2, 10, -1), 80);
        x.tire(0, 50);
        x.tire(1, 49);
        C.due("1 bears it to 50", x.relay(1, 1, 0), 1);
        C.due("then 0, who is 49", x.relay(2, 1, 1), 0);
        C.due("two", x.relay(2, 1, -1), 8);
        C.due("then 1, who is 49 again", x.relay(3, 1, 2), 1);
        C.due("none can bear it twice", x.relay(1, 2, -1), -1);
        x.tire(0, 48);
        C.due("0 twice", x.relay(1, 2, -1), 8);
        C.due("0 twice", x.relay(1, 2, 0), 0);
        x.tire(0, 0);
        x.tire(1, 0);
        x.ask(0, 1);
        C.due("0 at least", x.relay(4, 20, -1), 100);
    }

    private static void relayAtTheEndOfTheWay() {
        C.by("if there is a BEARER and DONE is less than WAY");
        Stone x = deaf(20, 20);
        x.tire(0, 49);
        x.ask(1, 4);
        C.due("one STEP, then no more TOIL", x.relay(4, 20, -1), 4);
        C.due("0 bears it", x.relay(4, 20, 0), 0);
        x.ask(1, 5);
        C.due("two STEPS: 51", x.relay(1, 20, 0), 1);
        x.tire(1, 49);
        C.due("two STEPS: 51", x.relay(1, 20, -1), -1);
        C.due("one each", x.relay(2, 1, -1), 5);
        x.ask(1, 0);
        C.due("at the end", x.relay(4, 20, -1), 0);
        x.tire(1, 50);
        C.due("50 at the end", x.relay(4, 20, -1), 0);
        x.tire(1, 51);
        C.due("51 at the end: nobody rests", x.relay(4, 20, -1), -1);
    }

    private static void relayNobodySighing() {
        C.by("who bears it on which leg, nobody sighing");
        Stone x = new Stone();
        x.person(Stone.WALKER, 0, 10, 0);
        x.person(Stone.WALKER, 0, 5, 0);
        x.tire(1, 40);
        x.give(1);
        C.due("1 SIGHS, but 0 bears it", x.relay(1, 10, -1), 20);
        C.due("0", x.relay(1, 10, 0), 0);
        C.due("0", x.relay(2, 10, 1), 0);
        C.due("0 for two legs", x.relay(2, 10, -1), 40);
        x.give(-1);
        C.due("though it lies now", x.relay(2, 10, -1), 40);
        x.tire(1, 51);
        C.due("1 rests to 50", x.relay(1, 10, -1), 20);
        x.tire(1, 55);
        C.due("1 rests to 54, and no sigh makes it 49", x.relay(1, 10, -1), -1);
    }

    private static void relayGreatest() {
        C.by("the greatest DONE; who on the i-th leg");
        Stone x = deaf(5, 10, 5);
        C.due("1", x.relay(1, 20, -1), 40);
        C.due("1", x.relay(1, 20, 0), 1);
        x.tire(1, 31);
        C.due("1 would be 51", x.relay(1, 20, -1), 20);
        C.due("0, the first of the others", x.relay(1, 20, 0), 0);
        x.tire(1, 30);
        C.due("1 is 50", x.relay(1, 20, -1), 40);
        x.ask(1, 39);
        C.due("WAY at most", x.relay(1, 20, -1), 39);
        x.give(2);
        x.steps(1);
        C.due("DONE now is in it", x.relay(1, 1, -1), 3);
    }

    private static void relayFirstByRows() {
        C.by("of several the first by rows");
        Stone x = deaf(10, 20, 20);
        x.tire(1, 47);
        x.tire(2, 47);
        x.ask(1, 999);
        C.due("1, 2, 1; or 1, 2, 2; or 2, 1, 1; or 2, 1, 2", x.relay(3, 2, -1), 24);
        C.due("leg 0", x.relay(3, 2, 0), 1);
        C.due("leg 1", x.relay(3, 2, 1), 2);
        C.due("leg 2", x.relay(3, 2, 2), 1);
        Stone y = deaf(10, 10, 10);
        y.tire(0, 50);
        for (int i = 0; i < 4; i++) {
            C.due("0 may bear it behind a rest", y.relay(4, 1, i), i % 2 == 0 ? 1 : 0);
        }
        y.tire(0, 0);
        for (int i = 0; i < 4; i++) {
            C.due("all alike", y.relay(4, 1, i), 0);
        }
    }

    private static void relayNoneThere() {
        C.by("NONE: there is none.");
        Stone x = new Stone();
        for (int k = 1; k <= 4; k++) {
            for (int i = -1; i < k; i++) {
                C.due("nobody: relay(" + k + ", 20, " + i + ")", x.relay(k, 20, i), -1);
            }
            C.due("nobody, no leg", x.relay(k, 20, k), -15);
        }
        x.ask(1, 0);
        C.due("nobody at the end", x.relay(1, 1, -1), -1);
        for (int p = 0; p < 7; p++) {
            x.person(Stone.DEAF, 0, 40, 0);
        }
        C.due("seven", x.relay(4, 20, -1), 0);
        x.ask(1, 999);
        C.due("seven", x.relay(4, 20, -1), 8 * 80);
        for (int i = 0; i < 4; i++) {
            C.due("0, 0, then 1, then he has rested", x.relay(4, 20, i), i == 2 ? 1 : 0);
        }
        x.tire(6, 99);
        C.due("one of seven is too TIRED", x.relay(4, 20, -1), -1);
        C.due("one of seven is too TIRED", x.relay(1, 1, 0), -1);
    }
}
