/** Promises 16 to 30: what comes of it; nothing is changed but how many REFUSALS there were. */
public final class ComesOfItPromises {
    private static final Checks C = new Checks();

    public static void main(String[] args) {
        promise16();
        promise17();
        promises18And19();
        promises18And19Sighs();
        promise20();
        promise21();
        promise22();
        promise22Order();
        promises23And24();
        promises23And24Refused();
        promise25();
        promise26();
        promise27();
        promise28();
        promise29();
        promise30();
        nothingIsChanged();
        C.end("ComesOfItPromises");
    }

    /** LIMITS 10, 20, 10, 20, 10, 10, 13. */
    private static Stone seven() {
        Stone x = new Stone();
        for (int kind = 0; kind < 7; kind++) {
            x.person(kind, 3, 10, 10);
        }
        return x;
    }

    private static void promise16() {
        Stone x = seven();
        C.due("nobody SIGHS", x.sighs(0), 0);
        C.due("nobody HINTED", x.sighs(1), 0);
        int[] limits = {10, 20, 10, 20, 10, 10, 13};
        for (int p = 0; p < 7; p++) {
            x.tire(p, limits[p]);
        }
        C.due("at the LIMIT", x.sighs(0), 0);
        C.due("HINTED, not the DEAF", x.sighs(1), 127 - 32);
        for (int p = 0; p < 7; p++) {
            x.tire(p, limits[p] - 4);
        }
        C.due("4 below it HINTED", x.sighs(1), 127 - 32);
        x.tire(1, limits[1] - 5);
        x.tire(3, 21);
        C.due("5 below it", x.sighs(1), 127 - 32 - 2 - 8);
        x.give(3);
        C.due("who bears it SIGHS too", x.sighs(0), 8);
        C.due("sighs(2)", x.sighs(2), -5);
        C.due("sighs(-1)", x.sighs(-1), -5);
        C.refused(x, 0, 0, 0, 0, 2, 0, 0);
    }

    private static void promise17() {
        Stone x = seven();
        int[] due = {11, 21, 11, 21, 11, -1, 14};
        for (int p = 0; p < 7; p++) {
            C.due("ready(" + p + ")", x.ready(p), due[p]);
        }
        x.tire(0, 10);
        C.due("at the LIMIT", x.ready(0), 1);
        x.tire(0, 11);
        C.due("he does", x.ready(0), 0);
        x.tire(0, 99);
        C.due("he does", x.ready(0), 0);
        x.tire(5, 99);
        C.due("the DEAF", x.ready(5), -1);
        C.due("nobody such", x.ready(7), -11);
        C.due("nobody such", x.ready(-1), -11);
        C.refused(x, 2, 0, 0, 0, 0, 0, 0);
    }

    private static void promises18And19() {
        Stone x = seven();
        x.tire(0, 7);
        C.due("ahead(0, 0)", x.ahead(0, 0), -1);
        C.due("it lies", x.ahead(60, 1), 0);
        C.due("2 less", x.tired(0, 3), 1);
        C.due("not below 0", x.tired(0, 4), 0);
        x.give(1);
        C.due("1 less", x.tired(0, 3), 4);
        C.due("TOIL more", x.tired(1, 3), 6);
        C.due("PACE more", x.ahead(3, 1), 6);
        C.due("as it is", x.tired(0, 0), 7);
        C.due("ahead(61, 0)", x.ahead(61, 0), -16);
        C.due("ahead(-1, 1)", x.ahead(-1, 1), -16);
        C.due("ahead(-1, 2)", x.ahead(-1, 2), -15);
        C.due("ahead(0, -1)", x.ahead(0, -1), -15);
        C.due("tired(7, 61)", x.tired(7, 61), -1);
        C.due("tired(-1, 0)", x.tired(-1, 0), -1);
        C.due("tired(0, 61)", x.tired(0, 61), -6);
        C.due("tired(0, -1)", x.tired(0, -1), -6);
        C.refused(x, 2, 0, 0, 0, 2, 4, 0);
    }

    private static void promises18And19Sighs() {
        Stone x = seven();
        x.give(0);
        x.tire(2, 12);
        x.tire(4, 15);
        x.tire(5, 99);
        C.due("the last of those who SIGH", x.ahead(1, 0), 4);
        C.due("1 and 5 less", x.tired(4, 1), 9);
        C.due("then the other one", x.ahead(2, 0), 4);
        C.due("no more: he rested", x.tired(2, 2), 10);
        x.tire(2, 13);
        C.due("he SIGHS behind the next", x.ahead(2, 0), 2);
        C.due("and rests", x.tired(2, 2), 6);
        x.ask(2, 30);
        C.due("a sigh is free", x.ahead(2, 0), 0);
        C.due("and no rest", x.tired(4, 2), 13);
        x.ask(2, 1);
        x.ask(1, 0);
        C.due("at the end they sigh as well", x.ahead(1, 0), 4);
        C.due("but are no less TIRED else", x.tired(2, 1), 13);
        C.due("5 less", x.tired(4, 1), 10);
        C.due("the next", x.ahead(2, 0), 2);
        C.due("the next", x.ahead(60, 0), 2);
        x.give(-1);
        C.due("he takes up what lies", x.ahead(1, 0), 4);
        C.due("2 and 5 less", x.tired(4, 1), 8);
        x.ask(1, 7);
        x.give(5);
        x.tire(5, 99);
        C.due("WAY at most", x.ahead(9, 1), 7);
        x.ask(2, 0);
        C.due("99 at most", x.tired(5, 3), 99);
    }

    private static void promise20() {
        Stone x = new Stone();
        C.due("it lies", x.over(), -1);
        x.ask(1, 0);
        C.due("it is there", x.over(), 0);
        x.ask(1, 200);
        x.person(5, 0, 1, 0);
        x.give(0);
        C.due("200 STEPS", x.over(), 200);
        x.ask(1, 201);
        C.due("201 STEPS", x.over(), -1);
        x.ask(1, 1);
        C.due("one", x.over(), 1);
        x.person(0, 0, 40, 0);
        x.ask(1, 30);
        x.tire(1, 99);
        C.due("with a sigh: 1, 9, 9, 9, 2", x.over(), 5);
    }

    private static void promise21() {
        Stone x = seven();
        x.image();
        x.ask(1, 999);
        x.tire(1, 99);
        int[] way = {500, 500, 500, 500, 999, 500, 999};
        int[] limit = {6, 0, 11, 5, 6, 11, 7};
        for (int p = 0; p < 7; p++) {
            C.due("alone(" + p + ", 0)", x.alone(p, 0), way[p]);
            C.due("alone(" + p + ", 1)", x.alone(p, 1), limit[p]);
        }
        C.due("upward", x.ask(1, 3), 999);
        C.due("upward", x.alone(0, 0), 2);
        x.ask(2, 0);
        x.give(2);
        x.steps(1);
        C.due("from DONE on", x.alone(0, 0), 1);
        x.restore();
        x.ask(1, 0);
        C.due("there", x.alone(0, 0), 0);
        C.due("WAY is no matter", x.alone(0, 1), 6);
        x.ask(0, 1);
        x.tire(3, 20);
        C.due("at the LIMIT", x.alone(3, 1), 1);
        x.tire(3, 21);
        C.due("above it", x.alone(3, 1), 0);
        C.due("alone(7, 2)", x.alone(7, 2), -11);
        C.due("alone(-1, 0)", x.alone(-1, 0), -11);
        C.due("alone(0, 2)", x.alone(0, 2), -15);
        C.due("alone(0, -1)", x.alone(0, -1), -15);
        C.refused(x, 2, 0, 0, 0, 2, 0, 0);
        Stone y = new Stone();
        y.person(1, 0, 40, 40);
        y.ask(0, 1);
        C.due("81 STEPS to be above 80", y.alone(0, 1), 81);
    }

    private static void promise22() {
        Stone x = new Stone();
        C.due("nobody", x.relay(1, 1, -1), -1);
        C.due("nobody", x.relay(1, 1, 0), -1);
        x.person(0, 0, 5, 0);
        C.due("nobody sighing", x.relay(1, 12, -1), 12);
        C.due("48 TIRED", x.relay(3, 4, 2), 0);
        C.due("52 TIRED", x.relay(1, 13, -1), -1);
        C.due("52 TIRED", x.relay(1, 13, 0), -1);
        x.tire(0, 2);
        C.due("50 TIRED", x.relay(1, 12, -1), 12);
        x.tire(0, 3);
        C.due("51 TIRED", x.relay(1, 12, -1), -1);
        x.tire(0, 0);
        x.person(0, 0, 10, 0);
        C.due("the swifter one", x.relay(1, 12, -1), 24);
        C.due("the swifter one", x.relay(1, 12, 0), 1);
        x.tire(0, 52);
        C.due("he who rests is too TIRED", x.relay(1, 1, -1), -1);
        x.tire(0, 51);
        C.due("he rests soon enough", x.relay(1, 1, -1), 2);
        x.give(0);
        C.due("the BEARER now is no matter", x.relay(2, 1, 0), 1);
        x.ask(1, 0);
        C.due("nobody rests at the end", x.relay(4, 20, -1), -1);
        x.tire(0, 50);
        C.due("there", x.relay(4, 20, -1), 0);
        C.due("the first row", x.relay(4, 20, 3), 0);
    }

    private static void promise22Order() {
        Stone x = new Stone();
        x.person(0, 0, 5, 0);
        x.person(0, 0, 10, 0);
        x.person(0, 0, 10, 0);
        C.due("1, 1, 1", x.relay(3, 5, -1), 30);
        for (int i = 0; i < 3; i++) {
            C.due("the first row", x.relay(3, 5, i), 1);
        }
        x.tire(1, 40);
        C.due("1 can bear it for one leg, behind a rest", x.relay(3, 5, -1), 30);
        C.due("leg 0", x.relay(3, 5, 0), 1);
        C.due("leg 1", x.relay(3, 5, 1), 2);
        C.due("leg 2", x.relay(3, 5, 2), 2);
        x.ask(1, 20);
        C.due("WAY at most", x.relay(4, 5, -1), 20);
        C.due("the first that comes there", x.relay(4, 5, 0), 0);
        C.due("the first that comes there", x.relay(4, 5, 3), 0);
        int[][] wrong = {{0, 0, 9, -16}, {5, 1, 9, -16}, {-1, 1, -1, -16}, {1, 0, -1, -16},
            {4, 21, 3, -16}, {4, 21, 4, -15}, {1, 0, 1, -15}, {4, 1, -2, -15},
            {Integer.MAX_VALUE, 1, -1, -16}};
        for (int[] w : wrong) {
            C.due("relay(" + w[0] + ", " + w[1] + ", " + w[2] + ")", x.relay(w[0], w[1], w[2]), w[3]);
        }
        C.refused(x, 0, 0, 0, 0, 3, 6, 0);
    }

    private static void promises23And24() {
        Stone x = new Stone();
        x.numbers(0, 4, 1, 2, 0, 4, 1, 0, 1, 2, 0, 2, 1, 0, 0);
        C.due("least", x.cases(0, 5, 0), 17);
        C.due("greatest", x.cases(0, 5, 1), 27);
        C.due("no clash", x.clash(0, 5), -1);
        C.due("clash", x.clash(0, 6), 5);
        C.due("the first clash", x.clash(0, 7), 5);
        C.due("they clash", x.cases(0, 6, 0), -1);
        C.due("they clash", x.cases(0, 7, 1), -1);
        int[][] told = {{0, 1, 0, 0}, {4, 0, 4, 1}, {1, 0, 3, 1, 1, 1}, {3, 1, 1, 0, 1, 0, 3, 0},
            {2, 1, 2, 1}, {0, 0, 1, 1, 0, 0, 1, 1}};
        int[] clash = {1, 1, 2, 3, -1, -1};
        int[] least = {-1, -1, -1, -1, 4, 2};
        int[] greatest = {-1, -1, -1, -1, 31, 30};
        for (int t = 0; t < told.length; t++) {
            x.numbers(5, told[t]);
            C.due("clash of row " + t, x.clash(5, told[t].length / 2), clash[t]);
            C.due("least of row " + t, x.cases(5, told[t].length / 2, 0), least[t]);
            C.due("greatest of row " + t, x.cases(5, told[t].length / 2, 1), greatest[t]);
        }
        C.due("none", x.cases(0, 0, 0), 0);
        C.due("none", x.cases(0, 0, 1), 31);
        C.due("none", x.clash(0, 0), -1);
        x.row(1, 3, 2);
        x.set(1, 0, (1L << 40) + 3);
        x.set(1, 1, (1L << 40) + 1);
        C.due("the lowest 32 bits of longs", x.cases(1, 1, 0), 8);
        x.row(2, 1, 160);
        C.due("40 twos", x.cases(2, 40, 1), 30);
        C.due("40 twos", x.clash(2, 40), -1);
        C.refused(x, 0, 0, 0, 0, 0, 0, 0);
    }

    private static void promises23And24Refused() {
        Stone x = new Stone();
        x.person(0, 0, 1, 1);
        x.show(1, 0);
        x.numbers(0, 5, 0, -1, 1, 0, 2, 0, -1);
        x.numbers(3, 0, 1, 1);
        x.row(4, 0, 160);
        int[][] wrong = {{-1, -1, -11}, {8, 99, -11}, {1, -1, -12}, {2, -1, -13}, {0, -1, -14},
            {0, 5, -15}, {0, 1, -16}, {3, 2, -15}, {4, 41, -16}, {4, 80, -16}, {4, 81, -15},
            {0, Integer.MAX_VALUE, -15}, {0, Integer.MIN_VALUE, -14}, {0, 1 << 31 - 1, -15}};
        for (int[] w : wrong) {
            C.due("cases(" + w[0] + ", " + w[1] + ")", x.cases(w[0], w[1], 0), w[2]);
            C.due("clash(" + w[0] + ", " + w[1] + ")", x.clash(w[0], w[1]), w[2]);
        }
        C.due("another what", x.cases(4, 41, 2), -15);
        C.due("another what", x.cases(4, -1, -1), -14);
        for (int i = 0; i < 4; i++) {
            x.numbers(5, i == 0 ? 5 : i == 1 ? -1 : 0, i == 2 ? 2 : i == 3 ? -1 : 0);
            C.due("no SORT, neither", x.cases(5, 1, 0), -16);
            C.due("no SORT, neither", x.clash(5, 1), -16);
        }
        C.refused(x, 4, 2, 2, 5, 11, 14, 0);
    }

    private static void promise25() {
        Stone x = new Stone();
        x.person(0, 0, 10, 40);
        x.person(0, 0, 5, 40);
        x.person(5, 0, 14, 40);
        x.give(1);
        x.steps(1);
        x.numbers(0, 2, 4, 6);
        C.due("0 and 2", x.borne(0, 3), 5);
        C.due("by one", x.borne(0, 1), 5);
        x.numbers(0, 1, 2, 3);
        C.due("1", x.borne(0, 3), 2);
        x.numbers(0, 0, 0, 1);
        C.due("nobody", x.borne(0, 2), 8);
        C.due("none", x.borne(0, 3), 0);
        x.tire(1, 90);
        x.numbers(0, 2, 3);
        C.due("who sighs takes it", x.borne(0, 2), 5);
        x.ask(1, 3);
        x.numbers(0, 2, 2);
        C.due("WAY at most", x.borne(0, 2), 5);
        x.show(1, 0);
        x.row(3, 0, 160);
        int[][] wrong = {{-1, -1, -1}, {8, 1, -1}, {1, -1, -2}, {2, -1, -3}, {0, -1, -4}, {0, 3, -5},
            {0, 0, -6}, {0, 41, -5}, {3, 41, -6}, {3, 160, -6}, {3, 161, -5}, {3, 0, -6}};
        for (int[] w : wrong) {
            C.due("borne(" + w[0] + ", " + w[1] + ")", x.borne(w[0], w[1]), w[2]);
        }
        C.refused(x, 2, 1, 1, 1, 3, 4, 0);
        Stone y = new Stone();
        y.row(0, 3, 40);
        C.due("nobody is there", y.borne(0, 40), 1);
        y.set(0, 39, 1L << 32);
        C.due("the lowest 32 bits of longs", y.borne(0, 40), 1);
        y.set(0, 39, 1);
        C.due("none", y.borne(0, 40), 0);
    }

    private static void promise26() {
        Stone x = new Stone();
        C.due("nobody", x.without(), -5);
        x.person(0, 0, 40, 0);
        C.due("the only one", x.without(), 0);
        x.person(0, 0, 5, 0);
        x.person(0, 0, 10, 0);
        x.give(0);
        C.due("all alike but the BEARER", x.without(), 1);
        x.tire(2, 20);
        C.due("without him who would sigh", x.without(), 2);
        x.tire(2, 0);
        x.give(1);
        x.tire(0, 3);
        C.due("0 takes it, so 1 is not missed, nor 2", x.without(), 1);
        x.ask(2, 30);
        C.due("a sigh is free: without 1 it lies", x.without(), 0);
        x.give(-1);
        C.due("NONE without each", x.without(), 0);
        C.refused(x, 0, 0, 0, 0, 1, 0, 0);
        Stone y = new Stone();
        y.person(5, 0, 1, 0);
        y.give(0);
        C.due("the BEARER alone", y.without(), 0);
        y.person(5, 0, 1, 0);
        y.ask(1, 200);
        C.due("200 is sooner than NONE", y.without(), 1);
        y.ask(1, 201);
        C.due("201 is not", y.without(), 0);
    }

    private static void promise27() {
        Stone x = new Stone();
        x.person(5, 0, 10, 0);
        x.give(0);
        C.due("PACE 2: 14 to 20", x.weights(50, 0), 7);
        C.due("PACE 2: 14 to 20", x.weights(50, 1), 14);
        C.due("PACE 1: 21 to 99", x.weights(100, 0), 79);
        C.due("PACE 1: 21 to 99", x.weights(100, 1), 21);
        C.due("PACE 9: 1 to 4", x.weights(12, 0), 4);
        C.due("PACE 9: 1 to 4", x.weights(12, 1), 1);
        C.due("none", x.weights(13, 1), 5);
        C.due("none", x.weights(14, 0), 0);
        C.due("none", x.weights(14, 1), -1);
        x.ask(1, 0);
        C.due("there", x.weights(0, 0), 99);
        C.due("there", x.weights(0, 1), 1);
        C.due("earlier", x.weights(1, 0), 0);
        x.ask(1, 200);
        C.due("t 200", x.weights(200, 0), 79);
        C.due("weights(201, 2)", x.weights(201, 2), -15);
        C.due("weights(0, -1)", x.weights(0, -1), -15);
        C.due("weights(201, 0)", x.weights(201, 0), -16);
        C.due("weights(-1, 1)", x.weights(-1, 1), -16);
        C.refused(x, 0, 0, 0, 0, 2, 2, 0);
    }

    private static void promise28() {
        praiseOfOne();
        praiseOfFaultTold();
        praiseSoonerAgain();
    }

    private static void praiseOfOne() {
        Stone x = new Stone();
        C.due("it lies: it is so now", x.praise(200), -1);
        x.person(5, 0, 10, 0);
        x.give(0);
        x.ask(0, 14);
        C.due("OVER is 50 by 20, 100 by 21", x.praise(50), 7);
        C.due("likewise till it is 100", x.praise(99), 7);
        x.ask(0, 20);
        C.due("the first makes it later", x.praise(50), 1);
        x.ask(0, 21);
        C.due("it is so now", x.praise(50), -1);
        C.due("never", x.praise(100), -1);
        C.due("it is so now", x.praise(99), -1);
        x.ask(0, 1);
        C.due("from 1 to 21", x.praise(99), 20);
        C.due("OVER is 12 by 4, 13 by 5", x.praise(12), 4);
        x.ask(1, 201);
        C.due("OVER is NONE: later", x.praise(200), 20);
        x.ask(0, 99);
        C.due("it is so now", x.praise(200), -1);
        x.ask(1, 200);
        C.due("200 is not later than 200; 99 is the most", x.praise(200), -1);
        x.ask(1, 0);
        C.due("there", x.praise(0), -1);
        C.due("praise(201)", x.praise(201), -16);
        C.due("praise(-1)", x.praise(-1), -16);
        C.due("WEIGHT stays", x.status(1), 99);
        C.due("STEPS stay", x.status(5), 0);
        C.refused(x, 0, 0, 0, 0, 0, 2, 0);
    }

    /** The run of issue 5: by WEIGHT 7 OVER is 15, by WEIGHT 8 it is 17. */
    private static void praiseOfFaultTold() {
        Stone x = new Stone();
        x.person(0, 0, 13, 0);
        x.ask(0, 1);
        x.give(0);
        C.due("7 praises from 1 to 8", x.praise(16), 7);
        for (int praised = 0; praised < 7; praised++) {
            C.due("not yet later", x.over() > 16 ? 1 : 0, 0);
            x.say(0, 1);
        }
        C.due("praised 7 times it is later", x.over(), 17);
        C.due("so now", x.praise(16), -1);
        x.ask(0, 1);
        C.due("OVER is 15 by 7 too", x.praise(15), 7);
        C.due("one less is later by 7", x.praise(14), 6);
        x = new Stone();
        x.person(0, 0, 40, 40);
        x.ask(0, 1);
        x.give(0);
        C.due("PACE is 2 by 80, 1 by 81", x.praise(50), 80);
    }

    /** The strong one has it back by his sigh once his TOIL is 2, from WEIGHT 41 on. */
    private static void praiseSoonerAgain() {
        Stone x = new Stone();
        x.person(0, 0, 40, 0);
        x.person(0, 0, 5, 3);
        x.give(0);
        x.tire(1, 5);
        x.ask(1, 40);
        x.ask(0, 40);
        C.due("4 by the strong one, 36 by the weak", x.over(), 37);
        C.due("so now, though not by 41", x.praise(36), -1);
        x.ask(0, 41);
        C.due("sooner", x.over() < 36 ? 1 : 0, 1);
        x.ask(0, 30);
        C.due("5 by the strong one, 35 by the weak", x.over(), 36);
        C.due("by 33 it is 37", x.praise(36), 3);
    }

    private static void promise29() {
        Stone x = new Stone();
        x.numbers(0, 0);
        C.due("nobody", x.judge(0, 1), 0);
        C.due("nothing told", x.judge(0, 0), -1);
        x.person(0, 0, 1, 1);
        x.person(0, 0, 1, 1);
        x.numbers(0, 0, 5, 10, 15, 6, 20);
        C.due("all can be", x.judge(0, 4), -1);
        C.due("SORT 6", x.judge(0, 6), 4);
        int[] wrong = {-1, -10, 6, 9, 16, 19, 20, 25, 100, Integer.MAX_VALUE, Integer.MIN_VALUE};
        for (int w : wrong) {
            x.numbers(0, 1, w);
            C.due("told " + w, x.judge(0, 2), 1);
            C.due("told " + w, x.judge(0, 1), -1);
        }
        x.show(1, 0);
        x.row(3, 3, 160);
        x.set(3, 39, (9L << 32) + 15);
        C.due("the lowest 32 bits of longs", x.judge(3, 40), -1);
        int[][] refused = {{-1, -1, -11}, {8, 1, -11}, {1, -1, -12}, {2, 99, -13}, {0, -1, -14},
            {0, 3, -15}, {0, 41, -15}, {3, 41, -16}, {3, 160, -16}, {3, 161, -15}};
        for (int[] r : refused) {
            C.due("judge(" + r[0] + ", " + r[1] + ")", x.judge(r[0], r[1]), r[2]);
        }
        C.refused(x, 2, 1, 1, 1, 3, 2, 0);
    }

    private static void promise30() {
        Stone x = new Stone();
        x.person(5, 0, 25, 40);
        x.person(5, 0, 10, 40);
        x.ask(0, 24);
        // borne by 1 (24), praised by 0 (25), light: put down, heavier by 0 (26), light no more (27)
        x.numbers(0, 10, 1, 5, 1, 5, 15, 15);
        int[][] due = {{-1, 0, 24}, {1, 1, 24}, {0, 5, 25}, {-1, 5, 25}, {0, 8, 26}, {0, 11, 27},
            {1, 12, 27}, {1, 13, 28}};
        for (int n = 0; n <= 7; n++) {
            for (int what = 0; what < 3; what++) {
                C.due("behind(0, " + n + ", " + what + ")", x.behind(0, n, what), due[n][what]);
            }
        }
        x.ask(2, 0);
        C.due("none counts: it lies", x.behind(0, 2, 0), -1);
        C.due("but it grows", x.behind(0, 2, 2), 25);
        x.show(1, 0);
        x.row(3, 0, 160);
        x.set(3, 40, -1);
        int[][] refused = {{-1, -1, 9, -11}, {1, -1, 9, -12}, {2, -1, 9, -13}, {0, -1, 9, -14},
            {0, 8, 0, -15}, {3, 41, 3, -15}, {3, 41, -1, -15}, {3, 41, 0, -16}, {3, 161, 0, -15}};
        for (int[] r : refused) {
            C.due("behind", x.behind(r[0], r[1], r[2]), r[3]);
        }
        x.set(3, 1, 6);
        C.due("WRONG", x.behind(3, 2, 0), -16);
        C.due("not WRONG yet", x.behind(3, 1, 0), -1);
        C.refused(x, 1, 1, 1, 1, 4, 2, 0);
    }

    private static void nothingIsChanged() {
        Stone x = seven();
        x.give(0);
        x.tire(3, 60);
        x.numbers(0, 1, 1, 1, 1, 1, 1);
        long[] ahead = standing(x);
        x.ahead(60, 0);
        x.tired(0, 60);
        x.over();
        x.alone(2, 0);
        x.alone(2, 1);
        x.relay(3, 20, -1);
        x.cases(0, 2, 0);
        x.clash(0, 2);
        x.borne(0, 6);
        x.without();
        x.weights(30, 0);
        x.praise(30);
        x.judge(0, 6);
        x.behind(0, 6, 1);
        long[] behind = standing(x);
        for (int i = 0; i < ahead.length; i++) {
            C.due("unchanged " + i, behind[i], ahead[i]);
        }
    }

    private static long[] standing(Stone x) {
        long[] all = new long[18 + 7];
        for (int what = 0; what < 18; what++) {
            all[what] = x.status(what);
        }
        for (int p = 0; p < 7; p++) {
            all[18 + p] = x.personOf(p, 4);
        }
        return all;
    }
}
