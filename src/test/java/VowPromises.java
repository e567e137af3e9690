/** Promises 9 to 15: PEOPLE, what the stone weighs, the VOW and its FAULT. */
public final class VowPromises {
    private static final Checks C = new Checks();

    public static void main(String[] args) {
        promise9();
        promise10();
        promise11();
        promise12();
        promise13();
        promise14();
        promise14Refused();
        promise15();
        faultsOfWords();
        faultsOfNumbers();
        faultsOfRoom();
        C.end("VowPromises");
    }

    private static void promise9() {
        Stone x = new Stone();
        C.due("no KIND", x.person(-1, 99, 0, 0), -1);
        C.due("no KIND", x.person(7, 0, 1, 1), -1);
        C.due("a below", x.person(0, -1, 1, 1), -6);
        C.due("a above", x.person(0, 10, 1, 1), -6);
        C.due("STRENGTH below", x.person(0, 0, 0, 1), -6);
        C.due("STRENGTH above", x.person(0, 0, 41, 1), -6);
        C.due("PATIENCE below", x.person(0, 0, 1, -1), -6);
        C.due("PATIENCE above", x.person(0, 0, 1, 41), -6);
        for (int p = 0; p < 7; p++) {
            C.due("person " + p, x.person(p, p % 2 == 0 ? 9 : 0, p == 0 ? 1 : 40, 40), p);
        }
        C.due("WRONG ahead of ROOM", x.person(0, 0, 0, 0), -6);
        C.due("no KIND ahead of ROOM", x.person(9, 0, 1, 0), -1);
        C.due("the eighth", x.person(0, 0, 1, 0), -7);
        C.due("status(0)", x.status(0), 7);
        C.refused(x, 3, 0, 0, 0, 0, 7, 1);
    }

    private static void promise10() {
        Stone x = new Stone();
        C.due("WEIGHT", x.ask(0, 99), 20);
        C.due("WEIGHT", x.ask(0, 1), 99);
        C.due("WEIGHT 0", x.ask(0, 0), -6);
        C.due("WEIGHT 100", x.ask(0, 100), -6);
        C.due("WAY", x.ask(1, 999), 100);
        C.due("WAY 1000", x.ask(1, 1000), -6);
        C.due("WAY -1", x.ask(1, -1), -6);
        C.due("RULE", x.ask(2, 0), 31);
        C.due("RULE", x.ask(2, 31), 0);
        C.due("RULE 32", x.ask(2, 32), -6);
        C.due("RULE -1", x.ask(2, -1), -6);
        C.due("no what", x.ask(3, 1), -6);
        C.due("no what", x.ask(-1, 1), -6);
        x.person(0, 0, 40, 0);
        x.give(0);
        C.due("steps", x.steps(3), 27);
        C.due("less than DONE", x.ask(1, 26), -6);
        C.due("DONE", x.ask(1, 27), 999);
        C.due("status(2)", x.status(2), 27);
        C.due("WAY 0", new Stone().ask(1, 0), 100);
        C.refused(x, 0, 0, 0, 0, 0, 9, 0);
    }

    private static void promise11() {
        Stone x = new Stone();
        x.person(0, 0, 1, 1);
        C.due("tire", x.tire(0, 99), 0);
        C.due("tire", x.tire(0, 0), 99);
        C.due("tire 100", x.tire(0, 100), -6);
        C.due("tire -1", x.tire(0, -1), -6);
        C.due("tire nobody", x.tire(1, 100), -1);
        C.due("tire nobody", x.tire(-1, 5), -1);
        C.due("TIRED", x.personOf(0, 4), 0);
        C.refused(x, 2, 0, 0, 0, 0, 2, 0);
    }

    private static void promise12() {
        Stone x = new Stone();
        C.due("give nobody such", x.give(0), -11);
        x.person(0, 0, 1, 1);
        x.person(0, 0, 1, 1);
        C.due("give(1)", x.give(1), -1);
        C.due("give(0)", x.give(0), 1);
        C.due("give(2)", x.give(2), -11);
        C.due("give(-2)", x.give(-2), -11);
        C.due("BEARER", x.status(4), 0);
        C.due("give(-1)", x.give(-1), 0);
        C.due("BEARER", x.status(4), -1);
        C.refused(x, 3, 0, 0, 0, 0, 0, 0);
    }

    /** 5 PACE, 6 TOIL, 7 LIMIT of each KIND by three WEIGHTS. */
    private static void promise13() {
        Stone x = new Stone();
        for (int kind = 0; kind < 7; kind++) {
            x.person(kind, kind + 1, 10 + kind, 40 - kind);
        }
        int[][] pace = {{9, 9, 9, 9, 8, 9, 8}, {2, 2, 2, 2, 1, 3, 2}, {1, 1, 1, 1, 1, 1, 1}};
        int[][] toil = {{1, 1, 1, 5, 1, 1, 1}, {2, 2, 1, 6, 2, 1, 2}, {10, 9, 5, 12, 8, 4, 7}};
        int[] limit = {40, 78, 38, 74, 36, 35, 41};
        int[] weight = {4, 20, 99};
        for (int w = 0; w < 3; w++) {
            x.ask(0, weight[w]);
            for (int p = 0; p < 7; p++) {
                C.due("KIND", x.personOf(p, 0), p);
                C.due("a", x.personOf(p, 1), p + 1);
                C.due("STRENGTH", x.personOf(p, 2), 10 + p);
                C.due("PATIENCE", x.personOf(p, 3), 40 - p);
                C.due("TIRED", x.personOf(p, 4), 0);
                C.due("PACE " + p + " by " + weight[w], x.personOf(p, 5), pace[w][p]);
                C.due("TOIL " + p + " by " + weight[w], x.personOf(p, 6), toil[w][p]);
                C.due("LIMIT " + p, x.personOf(p, 7), limit[p]);
            }
        }
        C.due("no such one", x.personOf(7, 0), -5);
        C.due("no such one", x.personOf(-1, 0), -5);
        C.due("another what", x.personOf(0, 8), -5);
        C.due("another what", x.personOf(0, -1), -5);
        C.refused(x, 0, 0, 0, 0, 4, 0, 0);
    }

    private static void promise14() {
        Stone x = new Stone();
        x.text(0, "person 3 2 40 05;weight 99;way 0;bears 0;free 4;free 0;counts 4");
        C.due("vow", x.vow(0), 7);
        int[] due = {1, 99, 0, 0, 0, 0, 30};
        for (int what = 0; what < due.length; what++) {
            C.due("status(" + what + ")", x.status(what), due[what]);
        }
        int[] one = {3, 2, 40, 5, 0};
        for (int what = 0; what < one.length; what++) {
            C.due("personOf(0, " + what + ")", x.personOf(0, what), one[what]);
        }
        x.tire(0, 7);
        x.text(1, "person 0 0 1 0;lies;way 99;counts 00");
        C.due("vow", x.vow(1), 4);
        C.due("PEOPLE", x.status(0), 2);
        C.due("it lies", x.status(4), -1);
        C.due("WAY", x.status(2), 99);
        C.due("RULE", x.status(6), 31);
        C.due("WEIGHT as it was", x.status(1), 99);
        C.due("TIRED as it was", x.status(7), 7);
        x.text(2, "bears 1;weight 5;weight 6;bears 2");
        C.due("a FAULT at the end", x.vow(2), -6);
        C.due("nothing is told", x.status(1), 99);
        C.due("nothing is told", x.status(4), -1);
        x.row(3, 3, 4);
        for (int i = 0; i < 4; i++) {
            x.set(3, i, (5L << 32) + "lies".charAt(i));
        }
        x.give(0);
        C.due("the lowest 32 bits of longs", x.vow(3), 1);
        C.due("it lies", x.status(4), -1);
    }

    private static void promise14Refused() {
        Stone x = new Stone();
        x.person(0, 0, 1, 1);
        x.show(0, 0);
        C.due("vow(-1)", x.vow(-1), -1);
        C.due("vow(8)", x.vow(8), -1);
        C.due("vow of one of the PEOPLE", x.vow(0), -2);
        C.due("vow of NOTHING", x.vow(1), -3);
        x.text(1, "weight 0");
        C.due("vow with a FAULT", x.vow(1), -6);
        C.refused(x, 2, 1, 1, 0, 0, 1, 0);
    }

    private static void promise15() {
        Stone x = new Stone();
        C.due("none yet", x.fault(), -1);
        x.vow(0);
        C.due("it came to no ROW", x.fault(), -1);
        x.text(0, "lie");
        x.vow(0);
        C.due("FAULT", x.fault(), 3);
        x.vow(8);
        x.vow(1);
        C.due("the latest that came to a ROW", x.fault(), 3);
        x.image();
        x.restore();
        C.due("the FAULT is not in THE IMAGE", x.fault(), 3);
        x.text(0, "lies");
        x.vow(0);
        C.due("there was none", x.fault(), -1);
    }

    /** A text on an object with one PIOUS and DONE 6. */
    private static void fault(String letters, int due) {
        Stone x = new Stone();
        x.person(1, 0, 15, 0);
        x.give(0);
        x.steps(2);
        x.text(0, letters);
        int answer = x.vow(0);
        C.due("fault of " + letters, x.fault(), due);
        C.due("a FAULT or not: " + letters, answer == -6 ? 1 : 0, due == -1 ? 0 : 1);
        C.due("refused or not: " + letters, x.status(16), due == -1 ? 0 : 1);
    }

    private static void faultsOfWords() {
        fault("", 0);
        fault(" ", 0);
        fault(";", 0);
        fault("Lies", 0);
        fault("x", 0);
        fault("w", 1);
        fault("wx", 1);
        fault("wex", 2);
        fault("wax", 2);
        fault("weigh", 5);
        fault("weigh 5", 5);
        fault("weight", 6);
        fault("weight5", 6);
        fault("weights 5", 6);
        fault("way", 3);
        fault("ways", 3);
        fault("perso", 5);
        fault("persoX", 5);
        fault("person", 6);
        fault("lies", -1);
        fault("lies ", 4);
        fault("lies;", 5);
        fault("lies; lies", 5);
        fault("lies;;lies", 5);
        fault("lies;lies", -1);
        fault("lies lies", 4);
        fault("lies\0", 4);
        fault("counts", 6);
        fault("count 1", 5);
        fault("free", 4);
        fault("freed 1", 4);
        fault("bear 0", 4);
        fault("bearer", 4);
    }

    private static void faultsOfNumbers() {
        fault("weight ", 7);
        fault("weight  5", 7);
        fault("weight x", 7);
        fault("weight -5", 7);
        fault("weight 0", 7);
        fault("weight 00", 7);
        fault("weight 000", 7);
        fault("weight 0x", 7);
        fault("weight 01", -1);
        fault("weight 100", 9);
        fault("weight 5x", 8);
        fault("weight 5 ", 8);
        fault("weight 5;", 9);
        fault("weight 5;lies", -1);
        fault("way 5", 4);
        fault("way 6", -1);
        fault("way 99", -1);
        fault("way 100", 6);
        fault("way 059", 4);
        fault("bears 0", -1);
        fault("bears 1", 6);
        fault("bears 00", -1);
        fault("counts 4", -1);
        fault("counts 5", 7);
        fault("counts 10", 7);
        fault("free 5", 5);
        fault("free 04", -1);
        fault("person 7 0 1 0", 7);
        fault("person 10 0 1 0", 7);
        fault("person 6 9 40 40", -1);
        fault("person 06 09 40 40", -1);
        fault("person 0 10 1 0", 9);
        fault("person 0 0 0 0", 11);
        fault("person 0 0 41 0", 11);
        fault("person 0 0 1 41", 13);
        fault("person 0 0 1", 12);
        fault("person 0 0 1 ", 13);
        fault("person 0 0 1 0 0", 14);
        fault("person 0 0 1  0", 13);
        fault("person 0 0 1;0", 12);
        fault("person 0 0 1 000", 15);
        fault("bears 1;person 0 0 1 0", 6);
        fault("person 0 0 1 0;bears 1", -1);
        fault("person 0 0 1 0;bears 2", 21);
    }

    private static void faultsOfRoom() {
        Stone x = new Stone();
        for (int p = 0; p < 6; p++) {
            x.person(0, 0, 1, 0);
        }
        String[] texts = {"person 0 0 1 0;person 0 0 1 0", "person 0 0 1 0;perso",
            "person 0 0 1 0;persox", "person 0 0 1 0;person", "person 0 0 1 0;lies"};
        int[] due = {15, 20, 20, 15, -1};
        for (int i = 0; i < texts.length; i++) {
            x.text(0, texts[i]);
            C.due(texts[i], x.vow(0), due[i] == -1 ? 2 : -6);
            C.due(texts[i], x.fault(), due[i]);
        }
        x.text(0, "person");
        x.vow(0);
        C.due("no room at once", x.fault(), 0);
        C.due("a FAULT is WRONG, not ROOM", x.status(16), 5);
        C.due("a FAULT is WRONG, not ROOM", x.status(17), 0);
    }
}
