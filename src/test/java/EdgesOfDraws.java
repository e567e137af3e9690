/** DAYS by draws, and the SEED that wraps around; promises 34 and 35. */
public final class EdgesOfDraws {
    private static final Checks C = new Checks();
    private static final int MIN = Integer.MIN_VALUE;
    private static final int MAX = Integer.MAX_VALUE;
    private static final int[] SEEDS = {1, 0, -1, 2, MAX, MIN, MIN + 1, MAX - 1, 77, -12345, 65535,
        65536, 1 << 30, -1 << 30, 1103515245, -1103515245};

    public static void main(String[] args) {
        seedAtFirst();
        seedWraps();
        upperBitsHaveNoSign();
        belowHowMany();
        eachSort();
        sixOnSaysNothing();
        thenAStep();
        firstWhoThenSort();
        howManyDays();
        daysOneByOne();
        seedBecomes();
        C.end("EdgesOfDraws");
    }

    /** SEED behind one DRAW, reckoned in longs. */
    private static int drawn(int seed) {
        return (int) (((seed & 0xffffffffL) * 1103515245L + 12345L) % (1L << 32));
    }

    private static int below(int seed, int n) {
        return (int) ((seed & 0xffffffffL) / 65536L % n);
    }

    private static Stone people(int n) {
        Stone x = new Stone();
        for (int p = 0; p < n; p++) {
            x.person(Stone.DEAF, 0, 20, 40);
        }
        x.ask(1, 999);
        return x;
    }

    /** A SEED by which he is drawn, and that SORT; from begin on. */
    private static int seedFor(int people, int who, int sort, int begin) {
        for (int seed = begin; seed < begin + 1000000; seed++) {
            int once = drawn(seed);
            if (below(once, people) == who && below(drawn(once), 12) == sort) {
                return seed;
            }
        }
        C.due("a SEED for " + who + ", " + sort, 0, 1);
        return 0;
    }

    private static void seedAtFirst() {
        C.by("SEED (1 at first)");
        Stone x = people(1);
        C.due("SEED", x.status(8), 1);
        x.days(1);
        C.due("two DRAWS behind 1", x.status(8), drawn(drawn(1)));
        C.due("reckoned by hand", drawn(1), 1103527590);
        Stone nobody = new Stone();
        nobody.days(1);
        C.due("nobody: no DRAW", nobody.status(8), 1);
        x = people(1);
        x.days(0);
        x.days(61);
        x.steps(60);
        x.say(0, 0);
        C.due("no DRAW by else", x.status(8), 1);
    }

    private static void seedWraps() {
        C.by("becomes SEED times 1103515245, and 12345 (an int, wrapping)");
        for (int seed : SEEDS) {
            Stone x = people(3);
            x.seed(seed);
            int due = seed;
            for (int day = 0; day < 5; day++) {
                x.days(1);
                due = drawn(drawn(due));
                C.due("SEED from " + seed + " on", x.status(8), due);
            }
            x.days(60);
            for (int i = 0; i < 120; i++) {
                due = drawn(due);
            }
            C.due("SEED from " + seed + " on, 60 days", x.status(8), due);
        }
    }

    /** Of a SEED below 0 the upper bits must be taken without a sign, whoever is drawn. */
    private static void upperBitsHaveNoSign() {
        C.by("its upper 16 bits, no sign, modulo n");
        int below0 = 0;
        for (int people = 1; people <= 7; people++) {
            for (int seed = -40; seed < 40; seed++) {
                Stone x = people(people);
                x.ask(2, 0);
                x.seed(seed);
                int once = drawn(seed);
                int who = below(once, people);
                int sort = below(drawn(once), 12);
                below0 += once < 0 || drawn(once) < 0 ? 1 : 0;
                x.days(1);
                C.due("BEARER of " + people + " by SEED " + seed, x.status(4), sort == 5 ? who : -1);
                C.due("WEIGHT by SEED " + seed, x.status(1), sort == 1 ? 21 : 20);
            }
        }
        C.due("SEEDS below 0 were among them", below0 > 100 ? 1 : 0, 1);
    }

    private static void belowHowMany() {
        C.by("one of the PEOPLE (a DRAW below how many)");
        for (int people = 1; people <= 7; people++) {
            for (int who = 0; who < people; who++) {
                for (int begin = 0; begin < 3; begin++) {
                    int seed = seedFor(people, who, Stone.HINT, begin * 1000003);
                    Stone x = people(people);
                    x.seed(seed);
                    x.days(1);
                    C.due("who of " + people + " by SEED " + seed, x.status(4), who);
                }
            }
        }
    }

    private static void eachSort() {
        C.by("a SORT (a DRAW below 12; 6 on: he says nothing)");
        for (int sort = 0; sort < 12; sort++) {
            for (int begin = -1; begin < 3; begin++) {
                int seed = seedFor(3, 2, sort, begin * 777777);
                for (int rule = 0; rule < 32; rule += sort < 5 ? 1 : 31) {
                    Stone x = people(3);
                    x.ask(2, rule);
                    x.seed(seed);
                    x.days(1);
                    boolean has = sort == 5 || sort < 5 && (rule >> sort & 1) == 1;
                    C.due("SORT " + sort + " by RULE " + rule, x.status(4), has ? 2 : -1);
                    C.due("WEIGHT", x.status(1), sort == 1 ? 21 : 20);
                    C.due("DONE", x.status(3), !has ? 0 : sort == 1 ? 3 : 4);
                }
            }
        }
    }

    private static void sixOnSaysNothing() {
        C.by("6 on: he says nothing");
        for (int sort = 5; sort < 12; sort++) {
            Stone x = people(2);
            x.give(1);
            x.ask(0, 21);
            x.seed(seedFor(2, 1, sort, 5));
            x.days(1);
            C.due("SORT " + sort + ": BEARER", x.status(4), 1);
            C.due("SORT " + sort + ": WEIGHT", x.status(1), sort == 5 ? 22 : 21);
            x.ask(0, 20);
            x.seed(seedFor(2, 1, sort, 5));
            x.days(1);
            C.due("SORT " + sort + ": light", x.status(4), sort == 5 ? -1 : 1);
            x.give(0);
            x.seed(seedFor(2, 1, sort, 5));
            x.days(1);
            C.due("SORT " + sort + ": another one", x.status(4), sort == 5 ? 1 : 0);
            x.ask(0, 99);
            x.give(1);
            x.seed(seedFor(2, 1, sort, 5));
            x.days(1);
            C.due("SORT " + sort + ": 99 at most", x.status(1), 99);
        }
    }

    private static void thenAStep() {
        C.by("then a STEP.");
        Stone x = people(2);
        x.seed(seedFor(2, 0, Stone.COUGH, 1));
        C.due("he has it ahead of the STEP", x.days(1), 4);
        C.due("STEPS", x.status(5), 1);
        C.due("TIRED", x.personOf(0, 4), 1);
        x.seed(seedFor(2, 1, 11, 1));
        C.due("nothing said, a STEP still", x.days(1), 8);
        C.due("STEPS", x.status(5), 2);
        x.person(Stone.WALKER, 0, 1, 0);
        x.tire(2, 20);
        x.seed(seedFor(3, 1, Stone.COUGH, 1));
        C.due("he has it for the STEP", x.days(1), 12);
        C.due("behind it one SIGHS", x.status(4), 2);
    }

    private static void firstWhoThenSort() {
        C.by("DAYS by draws, n times: one of the PEOPLE (a DRAW below how many), a SORT (a DRAW below "
            + "12");
        Stone x = people(1);
        for (int day = 0; day < 40; day++) {
            int sort = below(drawn(drawn(x.status(8))), 12);
            int weight = x.status(1);
            int bearer = x.status(4);
            x.days(1);
            boolean heavier = sort == 1 || sort == 5 && bearer == 0 && weight > 20;
            C.due("with one alone the second DRAW is the SORT", x.status(1) - weight, heavier ? 1 : 0);
            boolean down = sort == 5 && bearer == 0 && weight <= 20;
            C.due("BEARER", x.status(4), sort < 5 ? 0 : sort > 5 ? bearer : down ? -1 : 0);
        }
    }

    private static void howManyDays() {
        C.by("DAYS by draws, n (1 to 60): DONE. -5 nobody; -6.");
        Stone x = people(1);
        x.give(0);
        x.ask(2, 0);
        C.due("days(0)", x.days(0), -6);
        C.due("days(61)", x.days(61), -6);
        C.due("days(-1)", x.days(-1), -6);
        C.due("SEED stays", x.status(8), 1);
        int done = x.days(1);
        C.due("DONE", x.status(3), done);
        C.due("STEPS", x.status(5), 1);
        done = x.days(60);
        C.due("DONE", x.status(3), done);
        C.due("STEPS", x.status(5), 61);
        x.days(59);
        C.due("STEPS", x.status(5), 120);
        C.refused(x, 0, 0, 0, 0, 0, 3, 0);
        Stone nobody = new Stone();
        int[] ns = {0, 1, 60, 61, -1};
        for (int n : ns) {
            C.due("nobody: days(" + n + ")", nobody.days(n), -5);
        }
        C.due("no STEP", nobody.status(5), 0);
        C.refused(nobody, 0, 0, 0, 0, 5, 0, 0);
    }

    private static void daysOneByOne() {
        C.by("DAYS by draws, n times");
        for (int people = 1; people <= 7; people++) {
            for (int seed : SEEDS) {
                Stone x = mixed(people);
                Stone y = mixed(people);
                Stone z = mixed(people);
                x.seed(seed);
                y.seed(seed);
                int due = seed;
                for (int day = 0; day < 30; day++) {
                    y.days(1);
                    due = drawn(due);
                    int who = below(due, people);
                    due = drawn(due);
                    int sort = below(due, 12);
                    if (sort < 6) {
                        z.say(who, sort);
                    }
                    z.steps(1);
                }
                x.days(30);
                for (int what = 0; what < 8; what++) {
                    C.due("at once, status(" + what + ")", x.status(what), z.status(what));
                    C.due("one by one, status(" + what + ")", y.status(what), z.status(what));
                }
                C.due("SEED", x.status(8), due);
                for (int p = 0; p < people; p++) {
                    C.due("TIRED of " + p, x.personOf(p, 4), z.personOf(p, 4));
                }
            }
        }
    }

    private static Stone mixed(int people) {
        Stone x = new Stone();
        int[] kinds = {6, 3, 5, 0, 1, 4, 2};
        for (int p = 0; p < people; p++) {
            x.person(kinds[p], p + 1, 30 - 4 * p, 2 * p);
            x.tire(p, 9 * p);
        }
        return x;
    }

    private static void seedBecomes() {
        C.by("SEED becomes v: what it was (nothing is refused).");
        Stone x = new Stone();
        int was = 1;
        for (int seed : SEEDS) {
            C.due("seed(" + seed + ")", x.seed(seed), was);
            C.due("SEED", x.status(8), seed);
            was = seed;
        }
        C.refused(x, 0, 0, 0, 0, 0, 0, 0);
    }
}
