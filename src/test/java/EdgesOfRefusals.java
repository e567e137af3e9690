import java.util.Arrays;

/**
 * REFUSALS, call by call: each number, which of two comes first, that it alone is counted, and that
 * all else stays as it was. The last element of a row of numbers is the answer, those ahead of it
 * the arguments.
 */
public final class EdgesOfRefusals {
    private static final Checks C = new Checks();
    private static final int MIN = Integer.MIN_VALUE;
    private static final int MAX = Integer.MAX_VALUE;

    private interface Made {
        long on(Stone x, int[] r);
    }

    public static void main(String[] args) {
        C.by("REFUSALS (the call answers the number; nothing changes but how many there were; the "
            + "first that fits, in this order)");
        shelves();
        copies();
        shownAndSaid();
        people();
        askedOfTheVow();
        vows();
        toldOfPeople();
        toldOfSteps();
        relays();
        toldCases();
        toldBorne();
        toldWeights();
        toldTalks();
        inTruth();
        withNobody();
        whatIsWanted();
        neverRefused();
        manyRefusals();
        C.end("EdgesOfRefusals");
    }

    private static void each(String call, Made made, int[]... rows) {
        for (int[] r : rows) {
            Scene.four().refuses(C, name(call, r), x -> made.on(x, r), r[r.length - 1]);
        }
    }

    private static void eachIfNobody(String call, Made made, int[]... rows) {
        for (int[] r : rows) {
            Scene.empty().refuses(C, name(call, r), x -> made.on(x, r), r[r.length - 1]);
        }
    }

    private static void eachIfFull(String call, Made made, int[]... rows) {
        for (int[] r : rows) {
            Scene.full().refuses(C, name(call, r), x -> made.on(x, r), r[r.length - 1]);
        }
    }

    private static void eachTold(String call, Made made, int[]... rows) {
        for (int[] r : rows) {
            Scene.four().tells(C, name(call, r), x -> made.on(x, r), r[r.length - 1]);
        }
    }

    private static String name(String call, int[] r) {
        return call + Arrays.toString(Arrays.copyOf(r, r.length - 1));
    }

    private static void shelves() {
        C.by("SHELF s holds a new ROW: 1. -1; -4; -6 SORT; -7 n above 160.");
        Made row = (x, r) -> x.row(r[0], r[1], r[2]);
        each("row", row, new int[][] {{-1, 4, -1, -1}, {8, -1, 161, -1}, {8, 0, 0, -1},
            {-1, 0, 0, -1}, {MIN, 0, 1, -1}, {MAX, 0, 1, -1}});
        for (int s = 0; s < 8; s++) {
            each("row", row, new int[][] {{s, 4, -1, -4}, {s, 0, -1, -4}, {s, -1, MIN, -4},
                {s, 4, 161, -6}, {s, -1, 0, -6}, {s, 4, 160, -6}, {s, MAX, 1, -6}, {s, MIN, MAX, -6},
                {s, 0, 161, -7}, {s, 3, MAX, -7}});
        }
        C.by("Element i of the ROW becomes v: 1. -1; -2; -3; -5.");
        each("set", (x, r) -> x.set(r[0], r[1], 6), new int[][] {{-1, -1, -1}, {8, 0, -1},
            {MIN, 0, -1}, {MAX, 0, -1}, {2, 0, -2}, {6, -1, -2}, {2, MAX, -2}, {3, 0, -3},
            {3, -1, -3}, {0, -1, -5}, {0, 4, -5}, {1, 4, -5}, {5, 4, -5}, {4, 160, -5}, {4, -1, -5},
            {7, 0, -5}, {7, -1, -5}, {0, MIN, -5}, {0, MAX, -5}});
    }

    private static void copies() {
        C.by("-1; -2 also of two SORTS (when both hold something); -3 either; -4 n; -5 i or j below "
            + "0, or an end that isn't there.");
        Made copy = (x, r) -> x.copy(r[0], r[1], r[2], r[3], r[4]);
        each("copy", copy, new int[][] {{-1, 2, -1, -1, -1, -1}, {2, -1, 0, 0, 0, -1},
            {8, 3, 0, 0, 0, -1}, {3, 8, 0, 0, 0, -1}, {0, 8, 0, 0, 0, -1}, {-1, 0, 0, 0, 0, -1},
            {MIN, MAX, 0, 0, 0, -1}});
        each("copy", copy, new int[][] {{2, 0, -1, -1, -1, -2}, {0, 2, 0, 0, 0, -2},
            {2, 2, 0, 0, 0, -2}, {2, 6, 0, 0, 0, -2}, {2, 3, 0, 0, -1, -2}, {3, 2, 0, 0, -1, -2},
            {0, 1, -1, 0, -1, -2}, {1, 0, 0, 0, 1, -2}, {0, 5, 0, 0, 1, -2}, {4, 5, 0, 0, 1, -2},
            {1, 4, 0, 0, 1, -2}, {7, 5, 0, 0, 0, -2}});
        each("copy", copy, new int[][] {{3, 0, -1, -1, -1, -3}, {0, 3, 0, 0, -1, -3},
            {3, 3, 0, 0, -1, -3}, {3, 1, 0, 0, 0, -3}, {4, 3, 0, 0, 0, -3}, {3, 7, 0, 0, 9, -3}});
        each("copy", copy, new int[][] {{0, 0, -1, 0, -1, -4}, {0, 7, 0, -1, -1, -4},
            {0, 0, 0, 0, -1, -4}, {5, 5, 9, 9, MIN, -4}, {4, 4, 160, 160, -1, -4}});
        each("copy", copy, new int[][] {{0, 0, -1, 0, 0, -5}, {0, 0, 0, -1, 0, -5},
            {0, 0, -1, 0, 1, -5}, {0, 0, 0, -1, 1, -5}, {0, 0, 5, 0, 0, -5}, {0, 0, 0, 5, 0, -5},
            {0, 0, 0, 0, 5, -5}, {0, 0, 1, 0, 4, -5}, {0, 0, 0, 1, 4, -5}, {0, 0, 4, 0, 1, -5},
            {0, 0, 0, 4, 1, -5}, {0, 7, 0, 0, 1, -5}, {7, 0, 0, 0, 1, -5}, {4, 4, 0, 1, 160, -5},
            {4, 4, 1, 0, 160, -5}, {4, 4, 161, 0, 0, -5}, {4, 4, 0, 161, 0, -5},
            {0, 0, MAX, 0, MAX, -5}, {0, 0, 0, MAX, MAX, -5}, {0, 0, 1, 1, MAX, -5},
            {0, 0, MAX, 0, 0, -5}, {0, 0, MIN, 0, MAX, -5}, {0, 0, 0, MIN, 1, -5}});
    }

    private static void shownAndSaid() {
        C.by("SHELF s holds one of the PEOPLE, or NOTHING (person NONE): 1, 0. -1.");
        each("show", (x, r) -> x.show(r[0], r[1]), new int[][] {{-1, 0, -1}, {8, 0, -1},
            {-1, -1, -1}, {8, -1, -1}, {0, 4, -1}, {2, 4, -1}, {3, 7, -1}, {0, -2, -1}, {6, -2, -1},
            {8, 4, -1}, {0, MIN, -1}, {0, MAX, -1}, {MIN, 0, -1}, {MAX, -1, -1}});
        C.by("-1 SHELF, KIND; -2 also one of another KIND; -3.");
        Made says = (x, r) -> x.says(r[0], r[1]);
        each("says", says, new int[][] {{-1, 0, -1}, {8, 0, -1}, {2, -1, -1}, {2, 7, -1}, {3, 7, -1},
            {0, -1, -1}, {8, 9, -1}, {2, MAX, -1}, {MIN, 0, -1}});
        each("says", says, new int[][] {{0, 0, -2}, {4, 6, -2}, {7, 0, -2}, {2, 1, -2}, {2, 2, -2},
            {2, 3, -2}, {2, 5, -2}, {6, 1, -2}, {6, 3, -2}, {6, 4, -2}, {6, 5, -2}, {6, 6, -2}});
        for (int kind = 0; kind < 7; kind++) {
            each("says", says, new int[] {3, kind, -3});
        }
    }

    private static void people() {
        C.by("One of the PEOPLE: the number. -1 KIND; -6; -7.");
        Made person = (x, r) -> x.person(r[0], r[1], r[2], r[3]);
        int[][] noKind = {{-1, 10, 0, 41, -1}, {7, -1, 41, -1, -1}, {7, 0, 1, 0, -1},
            {-1, 0, 1, 0, -1}, {MIN, 0, 1, 0, -1}, {MAX, 0, 1, 0, -1}};
        int[][] wrong = {{0, -1, 1, 0, -6}, {0, 10, 1, 0, -6}, {1, 0, 0, 0, -6}, {2, 0, 41, 0, -6},
            {3, 0, -1, 0, -6}, {4, 0, 1, -1, -6}, {5, 0, 1, 41, -6}, {6, MIN, 1, 0, -6},
            {6, 0, MAX, 0, -6}, {6, 0, 1, MAX, -6}, {6, 0, 1, MIN, -6}};
        each("person", person, noKind);
        each("person", person, wrong);
        eachIfFull("person", person, noKind);
        eachIfFull("person", person, wrong);
        for (int kind = 0; kind < 7; kind++) {
            eachIfFull("person", person, new int[] {kind, 0, 1, 0, -7}, new int[] {kind, 9, 40, 40, -7});
        }
        C.by("Of one: 0 KIND, 1 a, 2 STRENGTH, 3 PATIENCE, 4 TIRED, 5 PACE, 6 TOIL, 7 LIMIT. -5: no "
            + "such one, another what.");
        each("personOf", (x, r) -> x.personOf(r[0], r[1]), new int[][] {{-1, 0, -5}, {4, 0, -5},
            {4, 7, -5}, {-1, -1, -5}, {0, 8, -5}, {3, -1, -5}, {3, 8, -5}, {MIN, 4, -5},
            {MAX, 4, -5}, {0, MIN, -5}, {0, MAX, -5}});
        eachIfFull("personOf", (x, r) -> x.personOf(r[0], r[1]), new int[] {7, 0, -5});
    }

    private static void askedOfTheVow() {
        C.by("WEIGHT (what 0), WAY (1; no less than DONE), RULE (2; 0 to 31) becomes v: what it was. "
            + "-6.");
        int done = Scene.four().x.status(3);
        each("ask", (x, r) -> x.ask(r[0], r[1]), new int[][] {{0, 0, -6}, {0, 100, -6}, {0, -1, -6},
            {0, MIN, -6}, {0, MAX, -6}, {1, done - 1, -6}, {1, 0, -6}, {1, -1, -6}, {1, 1000, -6},
            {1, MIN, -6}, {1, MAX, -6}, {2, -1, -6}, {2, 32, -6}, {2, MIN, -6}, {2, MAX, -6},
            {3, 20, -6}, {-1, 20, -6}, {MIN, 20, -6}, {MAX, 20, -6}});
        C.by("TIRED of one becomes v: what it was. -1; -6.");
        each("tire", (x, r) -> x.tire(r[0], r[1]), new int[][] {{-1, 5, -1}, {4, 5, -1}, {4, 100, -1},
            {-1, -1, -1}, {MIN, 0, -1}, {MAX, 0, -1}, {0, -1, -6}, {0, 100, -6}, {3, -1, -6},
            {3, 100, -6}, {3, MIN, -6}, {3, MAX, -6}});
        C.by("BEARER becomes one (NONE: it lies): who it was (NONE). -11 (counted as -1).");
        each("give", (x, r) -> x.give(r[0]), new int[][] {{4, -11}, {-2, -11}, {7, -11}, {MIN, -11},
            {MAX, -11}});
    }

    private static void vows() {
        C.by("A VOW by the ROW in SHELF s: how many ITEMS. -1; -2; -3; -6 a FAULT.");
        each("vow", (x, r) -> x.vow(r[0]), new int[][] {{-1, -1}, {8, -1}, {MIN, -1}, {MAX, -1},
            {2, -2}, {6, -2}, {3, -3}, {7, -6}});
    }

    private static void toldOfPeople() {
        C.by("PEOPLE (bits) who SIGH (what 0), HINTED (1). -5 another what.");
        each("sighs", (x, r) -> x.sighs(r[0]), new int[][] {{-1, -5}, {2, -5}, {MIN, -5}, {MAX, -5}});
        C.by("READY; NONE. -11 (counted as -1).");
        each("ready", (x, r) -> x.ready(r[0]), new int[][] {{-1, -11}, {4, -11}, {MIN, -11},
            {MAX, -11}});
        C.by("ALONE: STEPS (what 0), till he is above his LIMIT (1; NONE). -11; -15 another what "
            + "(counted as -1, -5).");
        each("alone", (x, r) -> x.alone(r[0], r[1]), new int[][] {{-1, 0, -11}, {4, 1, -11},
            {4, 2, -11}, {-1, -1, -11}, {MAX, 0, -11}, {MIN, 0, -11}, {0, 2, -15}, {3, -1, -15},
            {3, MAX, -15}, {3, MIN, -15}});
    }

    private static void toldOfSteps() {
        C.by("AHEAD: BEARER (what 0; NONE), DONE (1). -15 another what; -16 (counted as -5, -6).");
        each("ahead", (x, r) -> x.ahead(r[0], r[1]), new int[][] {{0, 2, -15}, {60, -1, -15},
            {-1, 2, -15}, {61, -1, -15}, {0, MAX, -15}, {0, MIN, -15}, {-1, 0, -16}, {61, 0, -16},
            {-1, 1, -16}, {61, 1, -16}, {MIN, 0, -16}, {MAX, 1, -16}});
        C.by("AHEAD: TIRED of one. -1; -6.");
        each("tired", (x, r) -> x.tired(r[0], r[1]), new int[][] {{-1, 0, -1}, {4, 60, -1},
            {4, 61, -1}, {-1, -1, -1}, {MAX, 1, -1}, {0, -1, -6}, {3, 61, -6}, {3, MIN, -6},
            {0, MAX, -6}});
    }

    private static void relays() {
        C.by("-15 no such i (0 to k less 1; looked at only if k may be); -16 k, m (counted as -5, "
            + "-6).");
        Made relay = (x, r) -> x.relay(r[0], r[1], r[2]);
        each("relay", relay, new int[][] {{1, 1, 1, -15}, {1, 0, 1, -15}, {1, 21, -2, -15},
            {2, 1, 2, -15}, {3, 1, 3, -15}, {4, 1, 4, -15}, {4, 20, -2, -15}, {4, 21, MAX, -15},
            {4, 1, MIN, -15}});
        each("relay", relay, new int[][] {{0, 1, -1, -16}, {0, 1, 0, -16}, {0, 1, -2, -16},
            {5, 1, -1, -16}, {5, 1, 4, -16}, {5, 1, 5, -16}, {-1, 1, -9, -16}, {MAX, 1, 0, -16},
            {MIN, 1, 0, -16}, {1, 0, 0, -16}, {1, 0, -1, -16}, {4, 21, 3, -16}, {4, 21, -1, -16},
            {2, -1, 1, -16}, {2, MAX, 1, -16}, {2, MIN, 1, -16}});
    }

    private static void toldCases() {
        C.by("-11; -12; -13; -14 n; -15 fewer elements, another what; -16 n above 40, no SORT 0 to 4, "
            + "neither 0 nor 1 (counted as -1 to -6).");
        Made cases = (x, r) -> x.cases(r[0], r[1], r[2]);
        each("cases", cases, new int[][] {{-1, -1, 2, -11}, {8, 0, 0, -11}, {MIN, 0, 0, -11},
            {MAX, 0, 0, -11}, {2, -1, 2, -12}, {6, 0, 0, -12}, {3, -1, 2, -13}, {3, 0, 0, -13},
            {5, -1, 2, -14}, {5, -1, 0, -14}, {7, MIN, 1, -14}});
        each("cases", cases, new int[][] {{5, 3, 0, -15}, {5, 2, 2, -15}, {5, 2, -1, -15},
            {5, 41, 0, -15}, {7, 1, 0, -15}, {1, 1, 2, -15}, {4, 41, 2, -15}, {4, 81, 0, -15},
            {4, MAX, 0, -15}, {4, 1 << 30, 1, -15}, {4, (1 << 30) + 40, 1, -15}, {5, 0, MIN, -15},
            {5, 0, MAX, -15}});
        each("cases", cases, new int[][] {{4, 41, 0, -16}, {4, 80, 1, -16}, {1, 1, 0, -16},
            {1, 2, 1, -16}});
        C.by("CLASH likewise; NONE. -11; -12; -13; -14; -15; -16 likewise.");
        each("clash", (x, r) -> x.clash(r[0], r[1]), new int[][] {{-1, -1, -11}, {8, 0, -11},
            {2, -1, -12}, {6, 0, -12}, {3, -1, -13}, {3, 0, -13}, {5, -1, -14}, {5, MIN, -14},
            {5, 3, -15}, {5, 41, -15}, {7, 1, -15}, {4, 81, -15}, {4, MAX, -15}, {4, 1 << 30, -15},
            {4, 41, -16}, {4, 80, -16}, {1, 1, -16}, {1, 2, -16}});
        int[][] twos = {{-1, 0}, {5, 0}, {MAX, 1}, {MIN, 1}, {0, -1}, {0, 2}, {4, MAX}, {4, MIN}};
        for (int[] two : twos) {
            casesRefuse(two[0], two[1]);
        }
    }

    /** The wrong two comes last, behind one that clashes with the one ahead of it. */
    private static void casesRefuse(int sort, int counted) {
        for (int what = 0; what < 2; what++) {
            int asked = what;
            Scene scene = Scene.four();
            scene.x.numbers(Scene.CASES, 3, 1, 3, 0, sort, counted);
            scene.refuses(C, "cases with " + sort + ", " + counted,
                x -> x.cases(Scene.CASES, 3, asked), -16);
        }
        Scene scene = Scene.four();
        scene.x.numbers(Scene.CASES, 3, 1, 3, 0, sort, counted);
        scene.refuses(C, "clash with " + sort + ", " + counted, x -> x.clash(Scene.CASES, 3), -16);
        C.due("the twos ahead of it may be", scene.x.clash(Scene.CASES, 2), 1);
    }

    private static void toldBorne() {
        C.by("BORNE by the first n elements (1 to 40) of the ROW in SHELF s. -1; -2; -3; -4 n; -5 fewer "
            + "elements; -6 n not 1 to 40.");
        each("borne", (x, r) -> x.borne(r[0], r[1]), new int[][] {{-1, -1, -1}, {8, 1, -1},
            {MIN, 0, -1}, {MAX, 1, -1}, {2, -1, -2}, {6, 0, -2}, {3, -1, -3}, {3, 1, -3},
            {0, -1, -4}, {7, MIN, -4}, {0, 5, -5}, {0, 41, -5}, {7, 1, -5}, {4, 161, -5},
            {4, MAX, -5}, {0, 0, -6}, {7, 0, -6}, {4, 0, -6}, {4, 41, -6}, {4, 160, -6}});
    }

    private static void toldWeights() {
        C.by("WEIGHTS: how many (what 0), the least (1; NONE). -15 another what; -16 t not 0 to 200 "
            + "(counted as -5, -6).");
        each("weights", (x, r) -> x.weights(r[0], r[1]), new int[][] {{0, 2, -15}, {200, -1, -15},
            {201, 2, -15}, {-1, -1, -15}, {0, MAX, -15}, {0, MIN, -15}, {-1, 0, -16}, {201, 0, -16},
            {-1, 1, -16}, {201, 1, -16}, {MIN, 0, -16}, {MAX, 1, -16}});
        C.by("PRAISE; NONE. -16 t not 0 to 200 (counted as -6).");
        each("praise", (x, r) -> x.praise(r[0]), new int[][] {{-1, -16}, {201, -16}, {MIN, -16},
            {MAX, -16}});
    }

    private static void toldTalks() {
        C.by("A told TALK by the first n elements (0 to 40) of the ROW in SHELF s: WRONG; NONE. -11; "
            + "-12; -13; -14 n; -15 fewer elements; -16 n above 40 (counted as -1 to -6).");
        each("judge", (x, r) -> x.judge(r[0], r[1]), new int[][] {{-1, -1, -11}, {8, 0, -11},
            {MIN, 0, -11}, {MAX, 0, -11}, {2, -1, -12}, {6, 0, -12}, {3, -1, -13}, {3, 0, -13},
            {1, -1, -14}, {7, MIN, -14}, {1, 5, -15}, {1, 41, -15}, {7, 1, -15}, {4, 161, -15},
            {4, MAX, -15}, {4, 41, -16}, {4, 160, -16}});
        C.by("BEHIND it: BEARER (what 0; NONE), DONE (1), WEIGHT (2). -11; -12; -13; -14; -15 also "
            + "another what; -16 also if it is WRONG (counted as -1 to -6).");
        Made behind = (x, r) -> x.behind(r[0], r[1], r[2]);
        each("behind", behind, new int[][] {{-1, -1, 3, -11}, {8, 0, 0, -11}, {2, -1, 3, -12},
            {6, 0, 0, -12}, {3, -1, 3, -13}, {3, 0, 0, -13}, {1, -1, 3, -14}, {1, -1, 0, -14},
            {1, 5, 3, -15}, {1, 5, 0, -15}, {1, 4, 3, -15}, {1, 4, -1, -15}, {1, 0, 3, -15},
            {0, 1, 3, -15}, {4, 41, 3, -15}, {4, 41, MIN, -15}, {4, 161, 0, -15}, {4, MAX, 1, -15},
            {7, 1, 2, -15}, {4, 41, 0, -16}, {4, 41, 2, -16}, {4, 160, 1, -16}, {0, 1, 0, -16},
            {0, 4, 1, -16}, {0, 1, 2, -16}});
        C.by("It comes to pass in truth: DONE. -1; -2; -3; -4; -5; -6 likewise.");
        each("done", (x, r) -> x.done(r[0], r[1]), new int[][] {{-1, -1, -1}, {8, 0, -1},
            {MIN, 1, -1}, {MAX, 1, -1}, {2, -1, -2}, {6, 0, -2}, {3, -1, -3}, {3, 0, -3},
            {1, -1, -4}, {7, MIN, -4}, {1, 5, -5}, {0, 41, -5}, {7, 1, -5}, {4, 161, -5},
            {4, MAX, -5}, {4, 41, -6}, {4, 160, -6}, {0, 1, -6}, {0, 4, -6}});
        talkWrongAtItsEnd();
    }

    private static void talkWrongAtItsEnd() {
        for (int what = 0; what < 3; what++) {
            int asked = what;
            Scene scene = Scene.four();
            scene.x.set(Scene.TALK, 3, 6);
            scene.refuses(C, "behind, WRONG at the end", x -> x.behind(Scene.TALK, 4, asked), -16);
        }
        Scene scene = Scene.four();
        scene.x.set(Scene.TALK, 3, 40);
        scene.refuses(C, "done, WRONG at the end", x -> x.done(Scene.TALK, 4), -6);
    }

    private static void inTruth() {
        C.by("A SAYING in truth: whether he is BEARER then (1, 0). -1; -6 SORT.");
        each("say", (x, r) -> x.say(r[0], r[1]), new int[][] {{-1, 0, -1}, {4, 5, -1}, {4, 6, -1},
            {-1, -1, -1}, {MIN, 0, -1}, {MAX, 1, -1}, {0, -1, -6}, {0, 6, -6}, {3, -1, -6},
            {3, 6, -6}, {3, MIN, -6}, {3, MAX, -6}});
        C.by("STEPS in truth, n (1 to 60): DONE. -6.");
        each("steps", (x, r) -> x.steps(r[0]), new int[][] {{0, -6}, {61, -6}, {-1, -6}, {MIN, -6},
            {MAX, -6}});
        C.by("DAYS by draws, n (1 to 60): DONE. -5 nobody; -6.");
        each("days", (x, r) -> x.days(r[0]), new int[][] {{0, -6}, {61, -6}, {-1, -6}, {MIN, -6},
            {MAX, -6}});
    }

    private static void withNobody() {
        C.by("-1 NOBODY: no such SHELF, PERSON, KIND.");
        eachIfNobody("show", (x, r) -> x.show(r[0], r[1]), new int[] {0, 0, -1});
        eachIfNobody("tire", (x, r) -> x.tire(r[0], 0), new int[] {0, -1});
        eachIfNobody("give", (x, r) -> x.give(r[0]), new int[] {0, -11});
        eachIfNobody("ready", (x, r) -> x.ready(r[0]), new int[] {0, -11});
        eachIfNobody("tired", (x, r) -> x.tired(r[0], 0), new int[] {0, -1});
        eachIfNobody("alone", (x, r) -> x.alone(r[0], 0), new int[] {0, -11});
        eachIfNobody("say", (x, r) -> x.say(r[0], 0), new int[] {0, -1});
        C.by("-5 BEYOND: an element that isn't there; nothing such to be told of.");
        eachIfNobody("personOf", (x, r) -> x.personOf(r[0], 0), new int[] {0, -5});
        C.by("WITHOUT. -5 nobody.");
        eachIfNobody("without", (x, r) -> x.without(), new int[] {-5});
        C.by("DAYS by draws, n (1 to 60): DONE. -5 nobody; -6.");
        eachIfNobody("days", (x, r) -> x.days(r[0]), new int[][] {{1, -5}, {60, -5}, {0, -5},
            {61, -5}, {MIN, -5}, {MAX, -5}});
        C.by("-6 there is none.");
        eachIfNobody("restore", (x, r) -> x.restore(), new int[] {-6});
        C.by("-16 also if it is WRONG");
        eachIfNobody("behind", (x, r) -> x.behind(r[0], r[1], 0), new int[] {Scene.LONGS, 1, -16});
    }

    /** On SHELVES of each sort, what wants a ROW and what wants one of the PEOPLE. */
    private static void whatIsWanted() {
        C.by("-2 OTHER: a SHELF that holds a PERSON where a ROW is wanted, or the other way about, ROWS of "
            + "two SORTS, one who isn't of the KIND wanted, or one under it. -3 NOTHING: a SHELF that "
            + "holds NOTHING.");
        int[][] shelves = {{Scene.CLERK_SHOWN, -2}, {Scene.SINGER_SHOWN, -2}, {Scene.NOTHING, -3}};
        for (int[] s : shelves) {
            each("set", (x, r) -> x.set(r[0], 0, 1), s);
            each("copy", (x, r) -> x.copy(r[0], Scene.TEXT, 0, 0, 0), s);
            each("copy to", (x, r) -> x.copy(Scene.TEXT, r[0], 0, 0, 0), s);
            each("vow", (x, r) -> x.vow(r[0]), s);
            each("borne", (x, r) -> x.borne(r[0], 1), s);
            each("done", (x, r) -> x.done(r[0], 0), s);
            int[] far = {s[0], s[1] - 10};
            each("cases", (x, r) -> x.cases(r[0], 0, 0), far);
            each("clash", (x, r) -> x.clash(r[0], 0), far);
            each("judge", (x, r) -> x.judge(r[0], 0), far);
            each("behind", (x, r) -> x.behind(r[0], 0, 0), far);
        }
        int[] rows = {Scene.TEXT, Scene.TALK, Scene.LONGS, Scene.CASES, Scene.NO_ELEMENTS};
        for (int row : rows) {
            for (int kind = 0; kind < 7; kind++) {
                each("says", (x, r) -> x.says(r[0], r[1]), new int[] {row, kind, -2});
            }
        }
    }

    private static void neverRefused() {
        C.by("Element i of the ROW; 0 if there is none (nothing is refused).");
        eachTold("element", (x, r) -> x.element(r[0], r[1]), new int[][] {{-1, 0, 0}, {8, 0, 0},
            {MIN, 0, 0}, {MAX, 0, 0}, {2, 0, 0}, {3, 0, 0}, {0, -1, 0}, {0, 4, 0}, {0, MIN, 0},
            {0, MAX, 0}, {4, 160, 0}, {7, 0, 0}, {0, 0, 'l'}, {0, 3, 's'}, {1, 0, 31}});
        C.by("What SHELF s holds: NONE NOTHING, or no such SHELF; a PERSON's number; 100 and the SORT "
            + "of a ROW.");
        eachTold("holds", (x, r) -> x.holds(r[0]), new int[][] {{-1, -1}, {8, -1}, {MIN, -1},
            {MAX, -1}, {3, -1}, {2, 1}, {6, 3}, {0, 100}, {1, 101}, {5, 102}, {4, 103}});
        C.by("THE TRACE's i-th body. NONE: none such.");
        eachTold("trace", (x, r) -> x.trace(r[0]), new int[][] {{-1, -1}, {10, -1}, {19, -1},
            {20, -1}, {MIN, -1}, {MAX, -1}, {0, 50}, {9, 10}});
        C.by("11 to 17: REFUSALS -1 to -7. NONE for another what.");
        eachTold("status", (x, r) -> x.status(r[0]), new int[][] {{-1, -1}, {10, -1}, {18, -1},
            {MIN, -1}, {MAX, -1}, {16, 1}});
        C.by("The FAULT of the latest vow() that came to a ROW; NONE: there was none, or none yet.");
        eachTold("fault", (x, r) -> x.fault(), new int[] {0});
    }

    /** An object is used for 512 calls at most; so 500 REFUSALS of one number is near the most. */
    private static void manyRefusals() {
        C.by("11 to 17: REFUSALS -1 to -7.");
        Stone x = new Stone();
        for (int i = 0; i < 500; i++) {
            x.steps(0);
        }
        C.refused(x, 0, 0, 0, 0, 0, 500, 0);
    }
}
