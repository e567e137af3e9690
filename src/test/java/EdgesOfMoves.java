/** MOVES of each KIND with numbers that wrap around, and THE TRACE; promises 36 and 37. */
public final class EdgesOfMoves {
    private static final Checks C = new Checks();
    private static final int MIN = Integer.MIN_VALUE;
    private static final int MAX = Integer.MAX_VALUE;
    private static final int[] XS = {0, 1, -1, 2, 5, 9, 10, -10, MAX, MAX - 1, MAX - 5, MAX - 9, MIN,
        MIN + 1, MIN + 4, MIN + 9, 1 << 30, -1 << 30, MAX / 2, MAX / 2 + 1, MAX / 3, MAX / 3 + 1,
        MAX / 6, MAX / 6 + 1, MIN / 3, MIN / 3 - 1, 123456789};

    /** The bodies of each KIND: walks, bears, speaks. */
    private static final int[][][] BODIES = {
        {{10}, {11, 10}, {12, 11, 10, 10}},
        {{20, 10}, {11, 20, 10}, {12, 11, 20, 10, 20, 10}},
        {{10}, {30, 11, 10}, {12, 30, 11, 10, 10}},
        {{40, 20, 10}, {11, 40, 20, 10}, {12, 11, 40, 20, 10, 40, 20, 10}},
        {{51, 10}, {11, 51, 10}, {50, 12, 11, 51, 10, 51, 10}},
        {{10}, {30, 11, 10}, {60, 12, 30, 11, 10, 10}},
        {{70, 51, 10}, {71, 11, 70, 51, 10}, {50, 12, 71, 11, 70, 51, 10, 70, 51, 10}}};

    public static void main(String[] args) {
        eachBody();
        bodiesByKind();
        wrapping();
        numbersAndA();
        bodiesThatRan();
        noSuchOneOrMove();
        firstTwentyAreKept();
        traceOfTheLatest();
        nothingElseIsChanged();
        C.end("EdgesOfMoves");
    }

    /** The one asked is of that KIND, has the number 1 and the a 3; x is 10. */
    private static void body(String words, int kind, int move, int due, int... bodies) {
        C.by(words);
        Stone x = new Stone();
        x.person(Stone.WALKER, 9, 1, 0);
        x.person(kind, 3, 1, 0);
        C.due("act(1, " + move + ", 10)", x.act(1, move, 10), due);
        C.due("so many ran", x.status(9), bodies.length);
        for (int i = 0; i < bodies.length; i++) {
            C.due("trace(" + i + ")", x.trace(i), bodies[i]);
        }
    }

    private static void eachBody() {
        body("WALKER: 10 walks: x + m.", Stone.WALKER, 0, 11, 10);
        body("11 bears: walks(x) * 2.", Stone.WALKER, 1, 22, 11, 10);
        body("12 speaks: bears(x) ^ walks(x - k).", Stone.WALKER, 2, 22 ^ 8, 12, 11, 10, 10);
        body("PIOUS: 20 walks: super.walks(x) + k.", Stone.PIOUS, 0, 14, 20, 10);
        body("SINGER: 30 bears: super.bears(x) * 3.", Stone.SINGER, 1, 66, 30, 11, 10);
        body("BISHOP: 40 walks: super.walks(x + 1).", Stone.BISHOP, 0, 15, 40, 20, 10);
        body("CHILD: 50 speaks: -super.speaks(x).", Stone.CHILD, 2, -(20 ^ 7), 50, 12, 11, 51, 10, 51,
            10);
        body("51 walks: super.walks(x) - m.", Stone.CHILD, 0, 10, 51, 10);
        body("DEAF: 60 speaks: super.speaks(x) ^ 5.", Stone.DEAF, 2, 66 ^ 8 ^ 5, 60, 12, 30, 11, 10,
            10);
        body("CLERK: 70 walks: super.walks(x) * 2.", Stone.CLERK, 0, 20, 70, 51, 10);
        body("71 bears: super.bears(x - k).", Stone.CLERK, 1, 28, 71, 11, 70, 51, 10);
    }

    private static void bodiesByKind() {
        String words = "walks(..) and so on: the body of one's KIND, or of the next KIND above that has "
            + "one; super: from the KIND above the body's on.";
        body(words, Stone.SINGER, 0, 11, 10);
        body(words, Stone.DEAF, 0, 11, 10);
        body(words, Stone.DEAF, 1, 66, 30, 11, 10);
        body(words, Stone.PIOUS, 1, 28, 11, 20, 10);
        body(words, Stone.BISHOP, 1, 30, 11, 40, 20, 10);
        body(words, Stone.BISHOP, 2, 30 ^ 12, 12, 11, 40, 20, 10, 40, 20, 10);
        body(words, Stone.CHILD, 1, 20, 11, 51, 10);
        body(words, Stone.CLERK, 2, -(28 ^ 14), 50, 12, 71, 11, 70, 51, 10, 70, 51, 10);
    }

    private static int walks(int kind, int m, int k, int x) {
        switch (kind) {
            case Stone.PIOUS: return x + m + k;
            case Stone.BISHOP: return x + 1 + m + k;
            case Stone.CHILD: return x;
            case Stone.CLERK: return x + x;
            default: return x + m;
        }
    }

    private static int bears(int kind, int m, int k, int x) {
        int w = walks(kind, m, k, kind == Stone.CLERK ? x - k : x);
        boolean sings = kind == Stone.SINGER || kind == Stone.DEAF;
        return sings ? w + w + w + w + w + w : w + w;
    }

    private static int speaks(int kind, int m, int k, int x) {
        int said = bears(kind, m, k, x) ^ walks(kind, m, k, x - k);
        if (kind == Stone.CHILD || kind == Stone.CLERK) {
            return ~said + 1;
        }
        return kind == Stone.DEAF ? said ^ 5 : said;
    }

    private static int due(int kind, int m, int k, int move, int x) {
        return move == 0 ? walks(kind, m, k, x)
            : move == 1 ? bears(kind, m, k, x) : speaks(kind, m, k, x);
    }

    private static void wrapping() {
        C.by("MOVES of PEOPLE, with x (wrapping): 0 walks, 1 bears, 2 speaks");
        for (int kind = 0; kind < 7; kind++) {
            Stone x = new Stone();
            x.person(Stone.WALKER, 0, 1, 0);
            x.person(Stone.WALKER, 0, 1, 0);
            x.person(kind, 9, 1, 0);
            for (int move = 0; move < 3; move++) {
                for (int v : XS) {
                    C.due("KIND " + kind + " act(2, " + move + ", " + v + ")", x.act(2, move, v),
                        due(kind, 2, 9, move, v));
                }
            }
        }
    }

    private static void numbersAndA() {
        C.by("m the number, k its a.");
        for (int kind = 0; kind < 7; kind++) {
            for (int a = 0; a <= 9; a++) {
                Stone x = new Stone();
                for (int p = 0; p < 7; p++) {
                    x.person(kind, p == 3 ? a : 9 - a, 1, 0);
                }
                for (int p = 0; p < 7; p++) {
                    int k = p == 3 ? a : 9 - a;
                    for (int move = 0; move < 3; move++) {
                        C.due("KIND " + kind + " act(" + p + ", " + move + ", 100)",
                            x.act(p, move, 100), due(kind, p, k, move, 100));
                    }
                }
            }
        }
    }

    private static void bodiesThatRan() {
        C.by("THE TRACE: the numbers of the bodies that ran in the latest act(), in the order in which "
            + "they began");
        for (int kind = 0; kind < 7; kind++) {
            Stone x = new Stone();
            x.person(kind, 3, 1, 0);
            for (int move = 0; move < 3; move++) {
                x.act(0, move, 10);
                int[] ran = BODIES[kind][move];
                C.due("KIND " + kind + ", MOVE " + move, x.status(9), ran.length);
                for (int i = 0; i < ran.length; i++) {
                    C.due("trace(" + i + ")", x.trace(i), ran[i]);
                }
                C.due("behind the last", x.trace(ran.length), -1);
                C.due("ahead of the first", x.trace(-1), -1);
                C.due("far behind", x.trace(MAX), -1);
                C.due("far ahead", x.trace(MIN), -1);
            }
        }
    }

    private static void noSuchOneOrMove() {
        C.by("A MOVE of one with x. 0, and no TRACE then: no such one, move.");
        int[][] none = {{1, 0}, {-1, 0}, {0, 3}, {0, -1}, {1, 3}, {7, 2}, {MAX, 0}, {MIN, 0}, {0, MAX},
            {0, MIN}};
        Stone x = new Stone();
        C.due("nobody", x.act(0, 0, 5), 0);
        C.due("nobody", x.status(9), 0);
        x.person(Stone.WALKER, 1, 1, 0);
        for (int[] n : none) {
            C.due("there is one", x.act(0, 2, 5), 14);
            C.due("a TRACE", x.trace(3), 10);
            C.due("act(" + n[0] + ", " + n[1] + ", 5)", x.act(n[0], n[1], 5), 0);
            C.due("none ran", x.status(9), 0);
            C.due("no TRACE", x.trace(0), -1);
            C.due("no TRACE", x.trace(3), -1);
        }
        C.due("the last MOVE", x.act(0, 2, 5), 14);
        C.due("the first MOVE", x.act(0, 0, 5), 5);
        C.refused(x, 0, 0, 0, 0, 0, 0, 0);
        for (int p = 1; p < 7; p++) {
            x.person(Stone.WALKER, 1, 1, 0);
        }
        C.due("the last of seven", x.act(6, 0, 5), 11);
        C.due("no eighth", x.act(7, 0, 5), 0);
    }

    /** No MOVE runs more than ten bodies, so all of them are kept and none stands from 10 on. */
    private static void firstTwentyAreKept() {
        C.by("the first 20 are kept.");
        Stone x = new Stone();
        x.person(Stone.CLERK, 9, 1, 0);
        for (int i = 0; i < 12; i++) {
            x.act(0, 2, i);
            C.due("ten ran", x.status(9), 10);
        }
        for (int i = 10; i <= 21; i++) {
            C.due("trace(" + i + ")", x.trace(i), -1);
        }
        C.due("the tenth", x.trace(9), 10);
    }

    private static void traceOfTheLatest() {
        C.by("bodies that ran in the latest act() (all, kept or not)");
        Stone x = new Stone();
        C.due("none yet", x.status(9), 0);
        C.due("none yet", x.trace(0), -1);
        x.person(Stone.BISHOP, 3, 1, 0);
        x.act(0, 2, 1);
        x.act(0, 0, 1);
        C.due("three", x.status(9), 3);
        C.due("the third", x.trace(2), 10);
        C.due("none of an earlier act()", x.trace(3), -1);
        x.steps(1);
        x.image();
        x.person(0, 0, 1, 0);
        x.act(1, 1, 4);
        x.restore();
        C.due("restore() leaves it", x.status(9), 2);
        C.due("restore() leaves it", x.trace(0), 11);
        C.due("though he isn't there", x.act(1, 1, 4), 0);
        C.due("no TRACE then", x.trace(0), -1);
    }

    private static void nothingElseIsChanged() {
        C.by("A MOVE of one with x.");
        Scene scene = Scene.four();
        long[] stands = scene.imageable();
        int fault = scene.x.fault();
        for (int p = -1; p < 5; p++) {
            for (int move = -1; move < 4; move++) {
                scene.x.act(p, move, MAX);
            }
        }
        Scene.alike(C, "what stands", scene.imageable(), stands);
        C.due("FAULT", scene.x.fault(), fault);
        C.refused(scene.x, 0, 0, 0, 0, 0, 1, 0);
    }
}
