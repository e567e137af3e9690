/** 2. STEPS, SAYINGS at their edges; with promises 31 to 33. */
public final class EdgesOfSteps {
    private static final Checks C = new Checks();
    private static final int NO_SIGH = 30;

    public static void main(String[] args) {
        paceOfAll();
        paceAtItsEnds();
        toilOfAll();
        toilUpward();
        limitOfAll();
        aboveTheLimit();
        theDeafNever();
        doneLessThanWay();
        wayAtMost();
        tiredAtMost();
        othersRest();
        allRest();
        restAtTheEndOfTheWay();
        ifASighCounts();
        whoseNumberComesLast();
        dontBearIt();
        sighsBehindTheRest();
        sighRests();
        stepsIsOneMore();
        ifItCounts();
        praiseAlways();
        lightByTheBearer();
        lightByAnother();
        lightIsNoMatterOfTheRule();
        mostStepsAtOnce();
        sayingsInTruth();
        talkInTruth();
        C.end("EdgesOfSteps");
    }

    private static int between(int v, int least, int most) {
        return Math.max(least, Math.min(most, v));
    }

    /** How often b goes into a. */
    private static int timesIn(int a, int b) {
        int times = 0;
        for (int left = a; left >= b; left -= b) {
            times++;
        }
        return times;
    }

    private static int paceDue(int kind, int strength, int weight) {
        int pace = between(timesIn(4 * strength, weight), 1, 9);
        return kind == Stone.CHILD || kind == Stone.CLERK ? between(pace - 1, 1, 8) : pace;
    }

    private static int toilDue(int kind, int a, int strength, int weight) {
        int toil = timesIn(weight + strength - 1, strength);
        if (kind == Stone.SINGER || kind == Stone.DEAF) {
            return timesIn(toil + 1, 2);
        }
        return kind == Stone.BISHOP ? toil + a : toil;
    }

    private static Stone oneOfEach(int a, int strength, int patience) {
        Stone x = new Stone();
        for (int kind = 0; kind < 7; kind++) {
            x.person(kind, a, strength, patience);
        }
        return x;
    }

    private static void paceOfAll() {
        C.by("PACE of one who bears it: 4 times STRENGTH by WEIGHT (cut), 1 at least, 9 at most; CHILD, "
            + "CLERK 1 less (1 at least).");
        for (int strength = 1; strength <= 40; strength++) {
            for (int first = 1; first <= 99; first += 50) {
                Stone x = oneOfEach(3, strength, 0);
                for (int weight = first; weight <= Math.min(99, first + 49); weight++) {
                    x.ask(0, weight);
                    for (int kind = 0; kind < 7; kind++) {
                        C.due("PACE of " + kind + ", " + strength + " by " + weight,
                            x.personOf(kind, 5), paceDue(kind, strength, weight));
                    }
                }
            }
        }
    }

    /** KIND, STRENGTH, WEIGHT, and how far the stone comes by one STEP. */
    private static void paceAtItsEnds() {
        C.by("4 times STRENGTH by WEIGHT (cut), 1 at least, 9 at most");
        int[][] due = {{0, 1, 99, 1}, {0, 1, 5, 1}, {0, 1, 4, 1}, {0, 1, 3, 1}, {0, 1, 2, 2},
            {0, 1, 1, 4}, {0, 40, 99, 1}, {0, 40, 81, 1}, {0, 40, 80, 2}, {0, 40, 18, 8},
            {0, 40, 17, 9}, {0, 40, 16, 9}, {0, 40, 15, 9}, {0, 40, 1, 9}, {0, 5, 2, 9}, {0, 9, 4, 9},
            {0, 9, 5, 7}, {4, 1, 99, 1}, {4, 1, 4, 1}, {4, 1, 2, 1}, {4, 1, 1, 3}, {6, 3, 4, 2},
            {4, 40, 80, 1}, {4, 40, 54, 1}, {4, 40, 53, 2}, {4, 40, 18, 7}, {4, 40, 17, 8},
            {6, 40, 1, 8}, {6, 40, 99, 1}, {1, 40, 1, 9}, {2, 40, 1, 9}, {3, 40, 1, 9}, {5, 40, 1, 9}};
        for (int[] d : due) {
            Stone x = new Stone();
            x.person(d[0], 9, d[1], 40);
            x.ask(0, d[2]);
            x.give(0);
            String name = "PACE of " + d[0] + ", " + d[1] + " by " + d[2];
            C.due(name, x.personOf(0, 5), d[3]);
            C.due(name + ", ahead", x.ahead(1, 1), d[3]);
            C.due(name + ", alone", x.alone(0, 0), (100 + d[3] - 1) / d[3]);
            C.due(name + ", in truth", x.steps(1), d[3]);
        }
    }

    private static void toilOfAll() {
        C.by("TOIL of it: WEIGHT by STRENGTH (upward); SINGER, DEAF half that (upward); BISHOP a "
            + "more.");
        for (int strength = 1; strength <= 40; strength++) {
            for (int first = 1; first <= 99; first += 50) {
                int a = (strength + first / 50) % 10;
                Stone x = oneOfEach(a, strength, 0);
                for (int weight = first; weight <= Math.min(99, first + 49); weight++) {
                    x.ask(0, weight);
                    for (int kind = 0; kind < 7; kind++) {
                        C.due("TOIL of " + kind + ", " + strength + " by " + weight,
                            x.personOf(kind, 6), toilDue(kind, a, strength, weight));
                    }
                }
            }
        }
    }

    /** KIND, a, STRENGTH, WEIGHT, and how TIRED one STEP makes him. */
    private static void toilUpward() {
        C.by("WEIGHT by STRENGTH (upward); SINGER, DEAF half that (upward); BISHOP a more.");
        int[][] due = {{0, 0, 1, 1, 1}, {0, 0, 40, 1, 1}, {0, 0, 40, 40, 1}, {0, 0, 40, 41, 2},
            {0, 0, 1, 99, 99}, {0, 9, 33, 99, 3}, {0, 9, 32, 99, 4}, {2, 0, 40, 1, 1},
            {2, 0, 40, 41, 1}, {2, 0, 40, 80, 1}, {2, 0, 40, 81, 2}, {5, 9, 1, 99, 50},
            {5, 0, 1, 98, 49}, {5, 0, 1, 2, 1}, {5, 0, 1, 3, 2}, {3, 0, 40, 1, 1}, {3, 9, 40, 1, 10},
            {3, 9, 1, 90, 99}, {3, 1, 1, 98, 99}, {4, 9, 40, 40, 1}, {6, 9, 40, 41, 2},
            {1, 9, 40, 41, 2}};
        for (int[] d : due) {
            Stone x = new Stone();
            x.person(d[0], d[1], d[2], 40);
            x.ask(0, d[3]);
            x.ask(2, NO_SIGH);
            x.give(0);
            String name = "TOIL of " + d[0] + ", " + d[1] + ", " + d[2] + " by " + d[3];
            C.due(name, x.personOf(0, 6), d[4]);
            C.due(name + ", ahead", x.tired(0, 1), d[4]);
            x.steps(1);
            C.due(name + ", in truth", x.personOf(0, 4), d[4]);
        }
    }

    private static void limitOfAll() {
        C.by("LIMIT: PATIENCE; PIOUS, BISHOP twice that; CLERK PATIENCE and a.");
        for (int patience = 0; patience <= 40; patience++) {
            for (int a = 0; a <= 9; a++) {
                Stone x = oneOfEach(a, 1, patience);
                int[] due = {patience, patience + patience, patience, patience + patience, patience,
                    patience, patience + a};
                for (int kind = 0; kind < 7; kind++) {
                    C.due("LIMIT of " + kind + ", " + a + ", " + patience, x.personOf(kind, 7),
                        due[kind]);
                }
            }
        }
    }

    private static void aboveTheLimit() {
        C.by("He SIGHS, if TIRED is above LIMIT");
        int[] patience = {0, 1, 10, 40};
        for (int p : patience) {
            for (int kind = 0; kind < 7; kind++) {
                Stone x = new Stone();
                x.person(kind, 7, 10, p);
                int limit = x.personOf(0, 7);
                int sighs = kind == Stone.DEAF ? 0 : 1;
                x.tire(0, limit);
                C.due("at the LIMIT " + limit, x.sighs(0), 0);
                C.due("one is missing", x.ready(0), sighs == 1 ? 1 : -1);
                x.tire(0, limit + 1);
                C.due("above it", x.sighs(0), sighs);
                C.due("none is missing", x.ready(0), sighs == 1 ? 0 : -1);
                x.tire(0, 0);
                C.due("not TIRED", x.sighs(0), 0);
                x.tire(0, 99);
                C.due("most TIRED", x.sighs(0), sighs);
            }
        }
    }

    private static void theDeafNever() {
        C.by("DEAF never.");
        Stone x = new Stone();
        x.person(Stone.DEAF, 0, 1, 0);
        x.person(Stone.DEAF, 0, 1, 0);
        x.tire(0, 99);
        x.tire(1, 99);
        C.due("nobody SIGHS", x.sighs(0), 0);
        C.due("nobody would", x.sighs(1), 0);
        C.due("never", x.ready(1), -1);
        x.steps(1);
        C.due("it lies", x.status(4), -1);
        x.give(0);
        x.steps(10);
        C.due("he has it", x.status(4), 0);
        C.due("though above his LIMIT", x.alone(0, 1), 0);
    }

    /** So the STEPS come, and so they are told ahead: BEARER, DONE, TIRED of each. */
    private static void stepped(Stone x, int n, int bearer, int done, int... tired) {
        int steps = x.status(5);
        C.due("ahead(" + n + ", 0)", x.ahead(n, 0), bearer);
        C.due("ahead(" + n + ", 1)", x.ahead(n, 1), done);
        for (int p = 0; p < tired.length; p++) {
            C.due("tired(" + p + ", " + n + ")", x.tired(p, n), tired[p]);
        }
        C.due("steps(" + n + ")", x.steps(n), done);
        C.due("BEARER", x.status(4), bearer);
        C.due("DONE", x.status(3), done);
        C.due("STEPS", x.status(5), steps + n);
        for (int p = 0; p < tired.length; p++) {
            C.due("TIRED of " + p, x.personOf(p, 4), tired[p]);
        }
    }

    /** WALKERS of STRENGTH 10, so of PACE 2 and TOIL 2, of LIMIT 40, that TIRED. */
    private static Stone walkers(int... tired) {
        Stone x = new Stone();
        for (int p = 0; p < tired.length; p++) {
            x.person(Stone.WALKER, 0, 10, 40);
            x.tire(p, tired[p]);
        }
        return x;
    }

    private static void doneLessThanWay() {
        C.by("A STEP: if there is a BEARER and DONE is less than WAY");
        Stone x = walkers(5, 5);
        x.ask(1, 2);
        x.give(0);
        stepped(x, 1, 0, 2, 7, 4);
        stepped(x, 1, 0, 2, 7, 4);
        stepped(x, 60, 0, 2, 7, 4);
        x.ask(1, 3);
        stepped(x, 1, 0, 3, 9, 3);
        stepped(x, 1, 0, 3, 9, 3);
        Stone y = walkers(5, 5);
        y.ask(1, 0);
        y.give(1);
        stepped(y, 1, 1, 0, 5, 5);
        y.ask(1, 1);
        stepped(y, 2, 1, 1, 4, 7);
    }

    private static void wayAtMost() {
        C.by("DONE is PACE of the BEARER more (WAY at most)");
        for (int way = 0; way <= 5; way++) {
            Stone x = walkers(0);
            x.ask(1, way);
            x.give(0);
            C.due("WAY " + way, x.ahead(1, 1), Math.min(way, 2));
            C.due("WAY " + way, x.ahead(2, 1), Math.min(way, 4));
            C.due("WAY " + way, x.ahead(60, 1), way);
            C.due("WAY " + way, x.steps(1), Math.min(way, 2));
            C.due("WAY " + way, x.steps(1), Math.min(way, 4));
            C.due("WAY " + way, x.steps(1), way);
        }
    }

    private static void tiredAtMost() {
        C.by("his TIRED is TOIL more (99 at most)");
        int[][] due = {{96, 98}, {97, 99}, {98, 99}, {99, 99}, {0, 2}};
        for (int[] d : due) {
            Stone x = walkers(d[0], 0);
            x.give(0);
            stepped(x, 1, 0, 2, d[1], 0);
            stepped(x, 1, 0, 4, Math.min(99, d[1] + 2), 0);
        }
        Stone x = new Stone();
        x.person(Stone.BISHOP, 9, 1, 40);
        x.ask(0, 99);
        x.give(0);
        C.due("TOIL may be more than 99", x.personOf(0, 6), 108);
        stepped(x, 1, 0, 1, 99);
        stepped(x, 1, 0, 2, 99);
    }

    private static void othersRest() {
        C.by("that of all others 1 less (0 at least)");
        Stone x = walkers(3, 0, 1, 2, 40, 3, 0);
        x.give(0);
        stepped(x, 1, 0, 2, 5, 0, 0, 1, 39, 2, 0);
        stepped(x, 1, 0, 4, 7, 0, 0, 0, 38, 1, 0);
        stepped(x, 1, 0, 6, 9, 0, 0, 0, 37, 0, 0);
        Stone y = walkers(1, 2, 0);
        y.give(2);
        stepped(y, 1, 2, 2, 0, 1, 2);
        stepped(y, 1, 2, 4, 0, 0, 4);
    }

    private static void allRest() {
        C.by("if nobody bears it, all are 2 less TIRED");
        Stone x = walkers(0, 1, 2, 3, 4, 40, 5);
        stepped(x, 1, -1, 0, 0, 0, 0, 1, 2, 38, 3);
        stepped(x, 1, -1, 0, 0, 0, 0, 0, 0, 36, 1);
        stepped(x, 19, -1, 0, 0, 0, 0, 0, 0, 0, 0);
        Stone nobody = new Stone();
        stepped(nobody, 60, -1, 0);
    }

    private static void restAtTheEndOfTheWay() {
        C.by("if nobody bears it, all are 2 less TIRED");
        Stone x = walkers(0, 9);
        x.ask(1, 2);
        x.give(0);
        x.steps(2);
        x.give(-1);
        stepped(x, 1, -1, 2, 0, 6);
        x.tire(0, 99);
        x.ask(2, NO_SIGH);
        stepped(x, 2, -1, 2, 95, 2);
    }

    private static void ifASighCounts() {
        C.by("Then, if a sigh counts, it comes to the one of those who SIGH");
        for (int rule = 0; rule < 32; rule++) {
            Stone x = walkers(0, 60);
            x.ask(2, rule);
            x.give(0);
            boolean counts = rule % 2 == 1;
            stepped(x, 1, counts ? 1 : 0, 2, 2, counts ? 54 : 59);
        }
        Stone x = walkers(60);
        stepped(x, 1, 0, 0, 53);
        x.give(-1);
        x.ask(2, 0);
        x.tire(0, 60);
        stepped(x, 1, -1, 0, 58);
    }

    private static void whoseNumberComesLast() {
        C.by("it comes to the one of those who SIGH and don't bear it whose number comes last");
        for (int sighing = 0; sighing < 64; sighing++) {
            Stone x = new Stone();
            int due = 0;
            for (int p = 0; p < 7; p++) {
                x.person(p == 3 ? Stone.DEAF : Stone.WALKER, 0, 10, 20);
                boolean sighs = p > 0 && (sighing >> p - 1 & 1) == 1;
                x.tire(p, sighs ? 30 : 20);
                due = sighs && p != 3 ? p : due;
            }
            x.give(0);
            C.due("those who SIGH " + 2 * sighing, x.ahead(1, 0), due);
            x.steps(1);
            C.due("those who SIGH " + 2 * sighing, x.status(4), due);
            C.due("he rests", x.personOf(due, 4), due == 0 ? 22 : 24);
        }
    }

    private static void dontBearIt() {
        C.by("those who SIGH and don't bear it");
        Stone x = walkers(60, 0, 60);
        x.give(2);
        stepped(x, 1, 0, 2, 54, 0, 62);
        stepped(x, 1, 2, 4, 56, 0, 56);
        stepped(x, 1, 0, 6, 50, 0, 58);
        Stone y = walkers(60);
        y.give(0);
        stepped(y, 1, 0, 2, 62);
        stepped(y, 1, 0, 4, 64);
    }

    private static void sighsBehindTheRest() {
        C.by("Then, if a sigh counts");
        Stone x = walkers(0, 41);
        x.give(0);
        stepped(x, 1, 0, 2, 2, 40);
        x.tire(1, 42);
        stepped(x, 1, 1, 4, 4, 36);
        Stone y = walkers(42);
        stepped(y, 1, -1, 0, 40);
        y.tire(0, 43);
        stepped(y, 1, 0, 0, 36);
        Stone z = walkers(39, 42);
        z.give(0);
        stepped(z, 1, 1, 2, 41, 36);
        stepped(z, 1, 1, 4, 40, 38);
        z = walkers(40, 42);
        z.give(0);
        stepped(z, 1, 1, 2, 42, 36);
        stepped(z, 1, 0, 4, 36, 38);
    }

    private static void sighRests() {
        C.by("if there is one, his TIRED is 5 less (0 at least)");
        int[][] due = {{2, 0}, {5, 0}, {6, 0}, {7, 1}, {8, 2}, {99, 93}};
        for (int[] d : due) {
            Stone x = new Stone();
            x.person(Stone.WALKER, 0, 10, 40);
            x.person(Stone.WALKER, 0, 10, 0);
            x.give(0);
            x.tire(1, d[0]);
            stepped(x, 1, 1, 2, 2, d[1]);
        }
        Stone x = new Stone();
        x.person(Stone.WALKER, 0, 10, 0);
        x.person(Stone.WALKER, 0, 10, 0);
        x.give(0);
        x.tire(1, 1);
        stepped(x, 1, 0, 2, 2, 0);
        x.tire(0, 0);
        x.ask(1, 2);
        int[][] atTheEnd = {{1, 0}, {4, 0}, {5, 0}, {6, 1}};
        for (int[] d : atTheEnd) {
            x.give(0);
            x.tire(1, d[0]);
            stepped(x, 1, 1, 2, 0, d[1]);
        }
        x.give(-1);
        x.tire(1, 2);
        stepped(x, 1, -1, 2, 0, 0);
        x.tire(1, 3);
        stepped(x, 1, 1, 2, 0, 0);
        x.give(-1);
        x.tire(1, 8);
        stepped(x, 1, 1, 2, 0, 1);
    }

    private static void stepsIsOneMore() {
        C.by("STEPS is 1 more.");
        Stone x = new Stone();
        x.steps(1);
        C.due("with nobody", x.status(5), 1);
        x.person(0, 0, 40, 0);
        x.steps(1);
        C.due("it lies", x.status(5), 2);
        x.give(0);
        x.ask(1, 8);
        x.steps(1);
        C.due("it is borne to the end", x.status(5), 3);
        x.steps(1);
        C.due("at the end", x.status(5), 4);
        x.person(0, 0, 1, 0);
        x.tire(1, 99);
        x.steps(2);
        C.due("with a sigh", x.status(5), 6);
        x.days(3);
        C.due("days", x.status(5), 9);
    }

    private static void ifItCounts() {
        C.by("A SAYING of one, of a SORT: if it counts, he is BEARER then");
        for (int sort = 0; sort < 5; sort++) {
            for (int before = -1; before < 2; before++) {
                Stone x = walkers(7, 7);
                x.give(before);
                C.due("it counts", x.say(1, sort), 1);
                C.due("BEARER", x.status(4), 1);
                x.ask(2, 31 - (1 << sort));
                x.give(before);
                C.due("it doesn't", x.say(1, sort), before == 1 ? 1 : 0);
                C.due("BEARER", x.status(4), before);
                C.due("nobody rests or tires", x.status(7), 14);
                C.due("no STEP", x.status(5), 0);
                C.due("no way", x.status(3), 0);
                C.due("heavier by praise alone", x.status(1), sort == 1 ? 22 : 20);
            }
        }
    }

    private static void praiseAlways() {
        C.by("praise: WEIGHT is 1 more (99 at most), whether it counts or not.");
        int[][] due = {{1, 2}, {20, 21}, {97, 98}, {98, 99}, {99, 99}};
        for (int[] d : due) {
            for (int rule = 0; rule < 32; rule++) {
                Stone x = walkers(0, 0);
                x.ask(2, rule);
                x.ask(0, d[0]);
                x.say(1, 1);
                C.due("WEIGHT " + d[0] + " by RULE " + rule, x.status(1), d[1]);
            }
        }
        for (int sort = 0; sort < 5; sort++) {
            Stone x = walkers(0);
            x.say(0, sort);
            C.due("SORT " + sort, x.status(1), sort == 1 ? 21 : 20);
        }
    }

    private static void lightByTheBearer() {
        C.by("SORT 5, he says that it is light: who is BEARER puts it down (nobody bears it), if WEIGHT "
            + "is STRENGTH at most, else WEIGHT is 1 more (99 at most)");
        int[][] due = {{10, 9, -1, 9}, {10, 10, -1, 10}, {10, 11, 1, 12}, {1, 1, -1, 1},
            {1, 2, 1, 3}, {40, 40, -1, 40}, {40, 41, 1, 42}, {40, 97, 1, 98}, {40, 98, 1, 99},
            {40, 99, 1, 99}, {40, 1, -1, 1}};
        for (int[] d : due) {
            Stone x = new Stone();
            x.person(Stone.WALKER, 0, 20, 0);
            x.person(Stone.CHILD, 0, d[0], 0);
            x.ask(0, d[1]);
            x.give(1);
            String name = "STRENGTH " + d[0] + ", WEIGHT " + d[1];
            C.due(name, x.say(1, 5), d[2] == 1 ? 1 : 0);
            C.due(name + ": BEARER", x.status(4), d[2]);
            C.due(name + ": WEIGHT", x.status(1), d[3]);
        }
    }

    private static void lightByAnother() {
        C.by("of another one: he is BEARER then.");
        int[] weights = {1, 10, 11, 98, 99};
        for (int weight : weights) {
            for (int before = -1; before < 3; before++) {
                Stone x = walkers(0, 0, 0);
                x.ask(0, weight);
                x.give(before);
                if (before == 1) {
                    continue;
                }
                C.due("another one", x.say(1, 5), 1);
                C.due("BEARER", x.status(4), 1);
                C.due("WEIGHT stays", x.status(1), weight);
            }
        }
    }

    private static void lightIsNoMatterOfTheRule() {
        C.by("SORT 5, he says that it is light");
        for (int rule = 0; rule < 32; rule++) {
            Stone x = walkers(0, 0);
            x.ask(2, rule);
            x.ask(0, 10);
            C.due("another one, by RULE " + rule, x.say(0, 5), 1);
            C.due("he puts it down, by RULE " + rule, x.say(0, 5), 0);
            C.due("it lies", x.status(4), -1);
            x.ask(0, 11);
            x.say(0, 5);
            C.due("too heavy, by RULE " + rule, x.say(0, 5), 1);
            C.due("WEIGHT", x.status(1), 12);
        }
        Stone x = walkers(0);
        C.due("SORT 6", x.say(0, 6), -6);
        C.due("SORT 5", x.say(0, 5), 1);
        C.due("SORT -1", x.say(0, -1), -6);
        C.due("SORT 0", x.say(0, 0), 1);
    }

    private static void mostStepsAtOnce() {
        C.by("STEPS in truth, n (1 to 60): DONE.");
        Stone x = new Stone();
        x.person(Stone.DEAF, 0, 1, 40);
        x.ask(1, 999);
        x.give(0);
        C.due("steps(1)", x.steps(1), 1);
        C.due("steps(60)", x.steps(60), 61);
        C.due("STEPS", x.status(5), 61);
        C.due("steps(59)", x.steps(59), 120);
        C.due("steps(0)", x.steps(0), -6);
        C.due("steps(61)", x.steps(61), -6);
        C.due("DONE", x.status(3), 120);
        C.due("STEPS", x.status(5), 120);
    }

    private static void sayingsInTruth() {
        C.by("A SAYING in truth: whether he is BEARER then (1, 0).");
        Stone x = walkers(0, 0);
        x.ask(2, 1 << Stone.HINT);
        C.due("nobody says it", x.say(-1, 0), -1);
        C.due("nobody says it", x.say(2, 0), -1);
        C.due("free: it lies still", x.say(0, Stone.COUGH), 0);
        C.due("it counts", x.say(0, Stone.HINT), 1);
        C.due("free: he has it still", x.say(0, Stone.COUGH), 1);
        C.due("free: another has it", x.say(1, Stone.ASKING), 0);
        C.due("light: he has it then", x.say(1, Stone.LIGHT), 1);
        C.due("SORT 6", x.say(1, 6), -6);
        C.refused(x, 2, 0, 0, 0, 0, 1, 0);
    }

    private static void talkInTruth() {
        C.by("It comes to pass in truth: DONE.");
        Stone x = walkers(0, 0, 0, 0, 0, 0, 0);
        x.ask(1, 999);
        x.numbers(0, 65, 0, 61, 65, 65);
        C.due("none", x.done(0, 0), 0);
        C.due("BEARER", x.status(4), -1);
        C.due("one", x.done(0, 1), 2);
        C.due("BEARER", x.status(4), 6);
        C.due("five, each by PACE 1", x.done(0, 5), 7);
        C.due("WEIGHT: 21, 22, 23, 24", x.status(1), 24);
        x.row(1, 0, 40);
        for (int i = 0; i < 40; i++) {
            x.set(1, i, 10 * (i % 7));
        }
        int done = x.status(3);
        C.due("40 SAYINGS", x.done(1, 40), done + 40);
        C.due("BEARER", x.status(4), 39 % 7);
        C.due("STEPS", x.status(5), 46);
        x.row(1, 0, 41);
        C.due("41", x.done(1, 41), -6);
        C.due("STEPS", x.status(5), 46);
    }
}
