/** Promises 31 to 40: SAYINGS and STEPS in truth, draws, MOVES, THE IMAGE, how many. */
public final class InTruthPromises {
    private static final Checks C = new Checks();

    public static void main(String[] args) {
        promise31();
        promise32();
        promise32Light();
        promise33();
        promise34();
        promise35();
        promise36And37();
        promise36Refused();
        promise38And39();
        promise39Shelves();
        promise40();
        C.end("InTruthPromises");
    }

    private static void promise31() {
        Stone x = new Stone();
        x.person(5, 0, 25, 40);
        x.person(5, 0, 10, 40);
        x.ask(0, 24);
        x.numbers(0, 10, 1, 5, 1, 5, 15, 15, 6);
        C.due("done(0, 5)", x.done(0, 5), 11);
        int[] due = {2, 27, 100, 11, 0, 5};
        for (int what = 0; what < due.length; what++) {
            C.due("status(" + what + ")", x.status(what), due[what]);
        }
        C.due("TIRED", x.personOf(0, 4), 2);
        C.due("done(0, 0)", x.done(0, 0), 11);
        C.due("WRONG", x.done(0, 8), -6);
        C.due("nothing of it comes to pass", x.status(5), 5);
        x.show(1, 0);
        x.row(3, 0, 160);
        int[][] refused = {{-1, -1, -1}, {8, 0, -1}, {1, -1, -2}, {2, -1, -3}, {0, -1, -4},
            {0, 9, -5}, {3, 161, -5}, {3, 41, -6}};
        for (int[] r : refused) {
            C.due("done(" + r[0] + ", " + r[1] + ")", x.done(r[0], r[1]), r[2]);
        }
        C.due("40 days", x.done(3, 40), 100);
        C.due("STEPS", x.status(5), 45);
        C.refused(x, 2, 1, 1, 1, 2, 2, 0);
    }

    private static void promise32() {
        for (int rule = 0; rule < 32; rule++) {
            saidByRule(rule);
        }
        Stone x = new Stone();
        C.due("nobody", x.say(0, 9), -1);
        x.person(0, 0, 1, 1);
        x.person(0, 0, 1, 1);
        C.due("no STEP, nobody rests", x.status(5), 0);
        x.give(0);
        x.ask(2, 0);
        C.due("he has it already", x.say(0, 2), 1);
        x.ask(0, 99);
        x.say(0, 1);
        C.due("99 at most", x.status(1), 99);
        C.due("nobody such", x.say(2, 6), -1);
        C.due("nobody such", x.say(-1, 0), -1);
        C.due("SORT 6", x.say(0, 6), -6);
        C.due("SORT -1", x.say(0, -1), -6);
        C.refused(x, 3, 0, 0, 0, 0, 2, 0);
    }

    private static void saidByRule(int rule) {
        Stone x = new Stone();
        x.person(0, 0, 1, 1);
        x.person(0, 0, 1, 1);
        x.ask(2, rule);
        for (int sort = 0; sort < 5; sort++) {
            x.give(0);
            int counts = rule >> sort & 1;
            C.due("RULE " + rule + " say(1, " + sort + ")", x.say(1, sort), counts);
            C.due("BEARER", x.status(4), counts);
        }
        C.due("praise makes it heavier", x.status(1), 21);
    }

    private static void promise32Light() {
        Stone x = new Stone();
        x.person(0, 0, 20, 1);
        x.person(0, 0, 40, 1);
        x.ask(2, 0);
        C.due("it lay", x.say(0, 5), 1);
        C.due("he puts it down", x.say(0, 5), 0);
        C.due("it lies", x.status(4), -1);
        C.due("as heavy as it was", x.status(1), 20);
        x.ask(0, 21);
        x.say(0, 5);
        C.due("too heavy to put down", x.say(0, 5), 1);
        C.due("heavier", x.status(1), 22);
        C.due("another one", x.say(1, 5), 1);
        C.due("he has it then", x.status(4), 1);
        C.due("as heavy as it was", x.status(1), 22);
        x.ask(0, 99);
        x.say(1, 5);
        C.due("99 at most", x.status(1), 99);
        C.due("he has it still", x.status(4), 1);
    }

    private static void promise33() {
        Stone x = new Stone();
        C.due("nobody", x.steps(60), 0);
        x.person(2, 0, 6, 9);
        x.person(3, 2, 40, 0);
        x.give(0);
        C.due("steps(5)", x.steps(5), 5);
        C.due("TIRED", x.personOf(0, 4), 10);
        C.due("STEPS", x.status(5), 65);
        x.tire(1, 1);
        C.due("rests, sighs no more", x.steps(1), 6);
        C.due("rests", x.personOf(1, 4), 0);
        x.tire(1, 2);
        C.due("he sighs", x.steps(1), 7);
        C.due("and has it", x.status(4), 1);
        C.due("0 at least", x.personOf(1, 4), 0);
        C.due("then the singer sighs", x.steps(1), 15);
        C.due("he has it", x.status(4), 0);
        C.due("less TIRED: 14 - 1 - 5", x.personOf(0, 4), 8);
        C.due("steps(0)", x.steps(0), -6);
        C.due("steps(61)", x.steps(61), -6);
        C.due("steps(-1)", x.steps(-1), -6);
        C.refused(x, 0, 0, 0, 0, 0, 3, 0);
    }

    private static Stone three() {
        Stone x = new Stone();
        x.person(0, 0, 10, 40);
        x.person(5, 0, 14, 40);
        x.person(1, 0, 20, 40);
        return x;
    }

    private static void promise34() {
        Stone x = new Stone();
        C.due("nobody, and n", x.days(0), -5);
        C.due("nobody", x.days(1), -5);
        x.person(0, 0, 10, 40);
        C.due("days(0)", x.days(0), -6);
        C.due("days(61)", x.days(61), -6);
        C.refused(x, 0, 0, 0, 0, 2, 2, 0);
        for (int begin = 0; begin < 60; begin += 20) {
            daysOneByOne(begin - 7);
        }
    }

    /** Twenty days by draws beside what is drawn said and done, and beside twenty days at once. */
    private static void daysOneByOne(int begin) {
        Stone x = three();
        Stone y = three();
        x.seed(begin);
        int seed = begin;
        for (int day = 0; day < 20; day++) {
            seed = seed * 1103515245 + 12345;
            int who = (seed >>> 16) % 3;
            seed = seed * 1103515245 + 12345;
            int sort = (seed >>> 16) % 12;
            if (sort < 6) {
                y.say(who, sort);
            }
            C.due("a day", x.days(1), y.steps(1));
            for (int what = 0; what < 8; what++) {
                C.due("status(" + what + ")", x.status(what), y.status(what));
            }
            C.due("SEED", x.status(8), seed);
        }
        Stone z = three();
        z.seed(begin);
        C.due("20 days at once", z.days(20), y.status(3));
        C.due("SEED", z.status(8), seed);
    }

    private static void promise35() {
        Stone x = new Stone();
        C.due("seed", x.seed(Integer.MIN_VALUE), 1);
        C.due("seed", x.seed(-1), Integer.MIN_VALUE);
        C.due("status(8)", x.status(8), -1);
        x.person(0, 0, 1, 1);
        x.days(1);
        int once = -1103515245 + 12345;
        C.due("two draws a day", x.status(8), once * 1103515245 + 12345);
        C.refused(x, 0, 0, 0, 0, 0, 0, 0);
    }

    private static void moved(Stone x, int p, int move, int in, int due, int... bodies) {
        String call = "act(" + p + ", " + move + ", " + in + ")";
        C.due(call, x.act(p, move, in), due);
        C.due(call + " ran", x.status(9), bodies.length);
        for (int i = 0; i < bodies.length; i++) {
            C.due(call + " trace(" + i + ")", x.trace(i), bodies[i]);
        }
        C.due(call + " end of the trace", x.trace(bodies.length), -1);
        C.due(call + " ahead of the trace", x.trace(-1), -1);
    }

    /** m is the number and the KIND here, k is 3, x is 10. */
    private static void promise36And37() {
        Stone x = new Stone();
        for (int kind = 0; kind < 7; kind++) {
            x.person(kind, 3, 1, 1);
        }
        moved(x, 0, 0, 10, 10, 10);
        moved(x, 0, 1, 10, 20, 11, 10);
        moved(x, 0, 2, 10, 20 ^ 7, 12, 11, 10, 10);
        moved(x, 1, 0, 10, 14, 20, 10);
        moved(x, 1, 1, 10, 28, 11, 20, 10);
        moved(x, 1, 2, 10, 28 ^ 11, 12, 11, 20, 10, 20, 10);
        moved(x, 2, 0, 10, 12, 10);
        moved(x, 2, 1, 10, 72, 30, 11, 10);
        moved(x, 2, 2, 10, 72 ^ 9, 12, 30, 11, 10, 10);
        moved(x, 3, 0, 10, 17, 40, 20, 10);
        moved(x, 3, 1, 10, 34, 11, 40, 20, 10);
        moved(x, 3, 2, 10, 34 ^ 14, 12, 11, 40, 20, 10, 40, 20, 10);
        moved(x, 4, 0, 10, 10, 51, 10);
        moved(x, 4, 1, 10, 20, 11, 51, 10);
        moved(x, 4, 2, 10, -(20 ^ 7), 50, 12, 11, 51, 10, 51, 10);
        moved(x, 5, 0, 10, 15, 10);
        moved(x, 5, 1, 10, 90, 30, 11, 10);
        moved(x, 5, 2, 10, 90 ^ 12 ^ 5, 60, 12, 30, 11, 10, 10);
        moved(x, 6, 0, 10, 20, 70, 51, 10);
        moved(x, 6, 1, 10, 28, 71, 11, 70, 51, 10);
        moved(x, 6, 2, 10, -(28 ^ 14), 50, 12, 71, 11, 70, 51, 10, 70, 51, 10);
        moved(x, 3, 1, Integer.MAX_VALUE, 2 * (Integer.MIN_VALUE + 6), 11, 40, 20, 10);
        C.due("far", x.trace(20), -1);
        C.due("far", x.trace(Integer.MAX_VALUE), -1);
        C.due("far", x.trace(Integer.MIN_VALUE), -1);
    }

    private static void promise36Refused() {
        Stone x = new Stone();
        C.due("nobody", x.act(0, 0, 5), 0);
        x.person(0, 0, 1, 1);
        int[][] none = {{1, 0}, {-1, 0}, {0, 3}, {0, -1}};
        for (int[] n : none) {
            C.due("act", x.act(0, 1, 5), 10);
            C.due("no such one, move", x.act(n[0], n[1], 5), 0);
            C.due("no TRACE", x.trace(0), -1);
            C.due("none ran", x.status(9), 0);
        }
        C.refused(x, 0, 0, 0, 0, 0, 0, 0);
    }

    private static void promise38And39() {
        Stone x = new Stone();
        C.due("no IMAGE", x.restore(), -6);
        x.person(3, 2, 12, 6);
        x.person(6, 5, 11, 8);
        x.ask(0, 30);
        x.ask(1, 50);
        x.ask(2, 30);
        x.give(1);
        x.seed(77);
        x.tire(0, 9);
        x.steps(2);
        long[] due = new long[10];
        for (int what = 0; what < 9; what++) {
            due[what] = x.status(what);
        }
        C.due("image", x.image(), 2);
        x.ask(0, 40);
        x.ask(2, 31);
        x.say(0, 0);
        x.person(0, 0, 40, 40);
        x.tire(0, 20);
        x.days(40);
        x.ask(1, 70);
        x.act(2, 1, 5);
        C.due("restore", x.restore(), 2);
        for (int what = 0; what < 9; what++) {
            C.due("status(" + what + ")", x.status(what), due[what]);
        }
        C.due("THE TRACE is not in it", x.status(9), 2);
        C.due("THE TRACE is not in it", x.trace(0), 11);
        C.due("REFUSALS are not in it", x.status(16), 1);
        C.due("TIRED", x.personOf(0, 4), 7);
        C.due("nobody such", x.personOf(2, 0), -5);
        C.due("one anew", x.person(4, 1, 2, 3), 2);
        C.due("not TIRED", x.personOf(2, 4), 0);
        C.due("of the new KIND", x.personOf(2, 0), 4);
        C.due("restore again", x.restore(), 2);
        x.person(0, 0, 1, 1);
        C.due("image again", x.image(), 3);
        C.due("restore", x.restore(), 3);
    }

    private static void promise39Shelves() {
        Stone x = new Stone();
        x.image();
        x.person(0, 0, 1, 1);
        x.show(0, 0);
        x.numbers(1, 8);
        C.due("restore", x.restore(), 0);
        C.due("he is not there", x.holds(0), -1);
        C.due("a ROW stays", x.element(1, 0), 8);
        x.person(3, 0, 1, 1);
        x.person(4, 0, 1, 1);
        x.image();
        x.person(5, 0, 1, 1);
        x.show(2, 1);
        x.show(3, 2);
        x.tire(1, 33);
        x.numbers(1, 9);
        C.due("restore", x.restore(), 2);
        C.due("he of that number", x.holds(2), 1);
        C.due("as THE IMAGE has him", x.says(2, 0), 0);
        C.due("NOTHING", x.holds(3), -1);
        C.due("NOTHING says", x.says(3, 0), -3);
        C.due("SHELVES are not in it", x.element(1, 0), 9);
    }

    private static void promise40() {
        Stone x = new Stone();
        x.person(0, 0, 40, 40);
        x.person(0, 0, 40, 40);
        x.give(0);
        x.steps(3);
        x.tire(0, 30);
        x.tire(1, 12);
        x.act(0, 2, 1);
        x.row(9, 0, 0);
        x.vow(5);
        x.row(5, 0, -1);
        x.row(5, 0, 161);
        int[] due = {2, 20, 100, 24, 0, 3, 31, 42, 1, 4, -1, 1, 0, 1, 1, 0, 0, 1, -1};
        for (int what = 0; what < due.length; what++) {
            C.due("status(" + what + ")", x.status(what), due[what]);
        }
        C.due("status(-1)", x.status(-1), -1);
        C.due("status(max)", x.status(Integer.MAX_VALUE), -1);
        C.due("status(min)", x.status(Integer.MIN_VALUE), -1);
    }
}
