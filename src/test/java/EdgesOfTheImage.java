/** THE IMAGE, what restore() brings back, and status; promises 38 to 40. And how often one asks. */
public final class EdgesOfTheImage {
    private static final Checks C = new Checks();

    public static void main(String[] args) {
        thereIsNone();
        imageOfNobody();
        imageOfSeven();
        allButShelves();
        notWhatElseIsSeen();
        theLatestImage();
        restoredAgainAndAgain();
        shelvesWithPeople();
        shelvesWithRows();
        placesAreFreeAgain();
        bearerIsBroughtBack();
        wayAndDoneAreBroughtBack();
        statusOfEach();
        tiredTogether();
        refusalsAreCounted();
        the512thCall();
        C.end("EdgesOfTheImage");
    }

    private static void thereIsNone() {
        C.by("-6 there is none.");
        Scene.empty().refuses(C, "restore()", x -> x.restore(), -6);
        Stone x = new Stone();
        x.person(Stone.WALKER, 0, 1, 0);
        x.row(0, 0, 3);
        C.due("none yet", x.restore(), -6);
        C.due("none yet", x.restore(), -6);
        C.due("he stays", x.status(0), 1);
        C.due("image", x.image(), 1);
        C.due("restore", x.restore(), 1);
        C.refused(x, 0, 0, 0, 0, 0, 2, 0);
    }

    private static void imageOfNobody() {
        C.by("is taken: how many PEOPLE.");
        Stone x = new Stone();
        C.due("nobody", x.image(), 0);
        x.person(Stone.WALKER, 0, 1, 0);
        x.give(0);
        x.steps(3);
        x.ask(0, 99);
        x.ask(1, 999);
        x.ask(2, 0);
        x.seed(-7);
        C.due("restore", x.restore(), 0);
        int[] due = {0, 20, 100, 0, -1, 0, 31, 0, 1};
        for (int what = 0; what < due.length; what++) {
            C.due("status(" + what + ")", x.status(what), due[what]);
        }
        C.due("nobody", x.personOf(0, 0), -5);
        C.due("nobody draws", x.days(1), -5);
    }

    private static void imageOfSeven() {
        C.by("is taken: how many PEOPLE.");
        Stone x = new Stone();
        for (int p = 0; p < 7; p++) {
            C.due("image", x.image(), p);
            C.due("person", x.person(p, p, p + 1, p), p);
            x.tire(p, 10 + p);
        }
        C.due("image", x.image(), 7);
        for (int p = 0; p < 7; p++) {
            x.tire(p, 99);
        }
        x.steps(5);
        C.due("restore", x.restore(), 7);
        for (int p = 0; p < 7; p++) {
            int[] due = {p, p, p + 1, p, 10 + p};
            for (int what = 0; what < due.length; what++) {
                C.due("personOf(" + p + ", " + what + ")", x.personOf(p, what), due[what]);
            }
        }
        C.due("no room still", x.person(0, 0, 1, 0), -7);
    }

    private static void allButShelves() {
        C.by("THE IMAGE of all but SHELVES (and THE IMAGE, REFUSALS, the FAULT, THE TRACE) is taken");
        Stone x = new Stone();
        x.person(Stone.BISHOP, 2, 12, 6);
        x.person(Stone.CLERK, 5, 11, 8);
        x.ask(0, 30);
        x.ask(1, 50);
        x.ask(2, 30);
        x.give(1);
        x.seed(77);
        x.tire(0, 9);
        x.steps(2);
        int[] was = new int[9];
        for (int what = 0; what < 9; what++) {
            was[what] = x.status(what);
        }
        C.due("image", x.image(), 2);
        x.person(Stone.WALKER, 0, 1, 0);
        x.ask(0, 31);
        x.ask(1, 60);
        x.ask(2, 2);
        x.give(0);
        x.seed(78);
        x.tire(0, 99);
        x.tire(1, 98);
        x.steps(1);
        for (int what = 0; what < 9; what++) {
            C.due("status(" + what + ") is another", x.status(what) == was[what] ? 1 : 0, 0);
        }
        C.due("restore", x.restore(), 2);
        for (int what = 0; what < 9; what++) {
            C.due("status(" + what + ")", x.status(what), was[what]);
        }
        C.due("TIRED of 0", x.personOf(0, 4), 7);
        C.due("KIND of 1", x.personOf(1, 0), 6);
    }

    private static void notWhatElseIsSeen() {
        C.by("(and THE IMAGE, REFUSALS, the FAULT, THE TRACE)");
        Stone x = new Stone();
        x.person(Stone.WALKER, 0, 1, 0);
        x.numbers(0, 5);
        x.show(1, 0);
        x.image();
        x.act(0, 1, 3);
        x.text(2, "li");
        x.vow(2);
        x.row(8, 0, 0);
        x.row(0, 0, -1);
        x.set(0, 0, 6);
        x.show(1, -1);
        x.show(3, 0);
        C.due("restore", x.restore(), 1);
        C.due("TRACE", x.status(9), 2);
        C.due("TRACE", x.trace(1), 10);
        C.due("FAULT", x.fault(), 2);
        C.due("a ROW", x.element(0, 0), 6);
        C.due("NOTHING", x.holds(1), -1);
        C.due("a new ROW", x.holds(2), 100);
        C.due("one of the PEOPLE", x.holds(3), 0);
        C.refused(x, 1, 0, 0, 1, 0, 1, 0);
    }

    private static void theLatestImage() {
        C.by("THE IMAGE of all but SHELVES");
        Stone x = new Stone();
        x.image();
        x.ask(0, 30);
        x.person(Stone.WALKER, 0, 1, 0);
        C.due("image again", x.image(), 1);
        x.ask(0, 40);
        x.tire(0, 50);
        C.due("the latest", x.restore(), 1);
        C.due("WEIGHT", x.status(1), 30);
        C.due("TIRED", x.personOf(0, 4), 0);
        x.restore();
        x.ask(0, 50);
        C.due("once more", x.restore(), 1);
        C.due("WEIGHT", x.status(1), 30);
    }

    private static void restoredAgainAndAgain() {
        C.by("All is as THE IMAGE has it");
        Stone x = new Stone();
        x.person(Stone.WALKER, 0, 10, 40);
        x.give(0);
        x.image();
        for (int i = 0; i < 5; i++) {
            x.steps(7);
            x.tire(0, 90);
            x.person(Stone.SINGER, 9, 40, 40);
            C.due("restore", x.restore(), 1);
            C.due("DONE", x.status(3), 0);
            C.due("STEPS", x.status(5), 0);
            C.due("TIRED", x.personOf(0, 4), 0);
            C.due("KIND", x.personOf(0, 0), 0);
            C.due("nobody more", x.personOf(1, 0), -5);
        }
        x.restore();
        x.steps(5);
        C.due("goes on from there", x.status(3), 10);
    }

    private static void shelvesWithPeople() {
        C.by("SHELVES with PEOPLE hold those of these numbers, or NOTHING: how many PEOPLE.");
        for (int kept = 0; kept <= 7; kept++) {
            Stone x = new Stone();
            for (int p = 0; p < kept; p++) {
                x.person(Stone.WALKER, p, 1, 0);
            }
            x.image();
            for (int p = kept; p < 7; p++) {
                x.person(Stone.CHILD, 0, 1, 0);
            }
            for (int s = 0; s < 8; s++) {
                x.show(s, 6 - s % 7);
            }
            if (kept > 0) {
                x.tire(0, 40);
            }
            C.due("restore", x.restore(), kept);
            for (int s = 0; s < 8; s++) {
                int p = 6 - s % 7;
                C.due("holds(" + s + ") of " + kept, x.holds(s), p < kept ? p : -1);
                C.due("says(" + s + ", 0)", x.says(s, 0), p < kept ? 0 : -3);
                C.due("set(" + s + ", 0, 0)", x.set(s, 0, 0), p < kept ? -2 : -3);
            }
        }
    }

    private static void shelvesWithRows() {
        C.by("SHELVES with PEOPLE hold those of these numbers, or NOTHING");
        Stone x = new Stone();
        x.image();
        x.person(Stone.WALKER, 0, 1, 0);
        x.numbers(0, 0, 0, 0);
        x.row(1, 3, 0);
        x.show(2, 0);
        C.due("restore", x.restore(), 0);
        C.due("a ROW", x.holds(0), 102);
        C.due("its elements", x.set(0, 2, 1), 1);
        C.due("a ROW of none", x.holds(1), 103);
        C.due("he isn't there", x.holds(2), -1);
        C.due("one comes in his place", x.person(Stone.CLERK, 0, 1, 0), 0);
        C.due("the SHELF holds NOTHING still", x.holds(2), -1);
        C.due("it says nothing", x.says(2, 0), -3);
    }

    private static void placesAreFreeAgain() {
        C.by("All is as THE IMAGE has it");
        Stone x = new Stone();
        x.person(Stone.WALKER, 0, 1, 0);
        x.image();
        for (int round = 0; round < 3; round++) {
            for (int p = 1; p < 7; p++) {
                C.due("place " + p, x.person(Stone.PIOUS, 0, 1, 0), p);
            }
            C.due("all taken", x.person(Stone.PIOUS, 0, 1, 0), -7);
            C.due("restore", x.restore(), 1);
            C.due("tire", x.tire(1, 0), -1);
            C.due("give", x.give(1), -11);
        }
    }

    private static void bearerIsBroughtBack() {
        C.by("All is as THE IMAGE has it");
        Stone x = new Stone();
        x.person(Stone.WALKER, 0, 10, 40);
        x.image();
        x.person(Stone.WALKER, 0, 20, 40);
        x.give(1);
        x.restore();
        C.due("it lies", x.status(4), -1);
        C.due("it lies ahead", x.ahead(60, 1), 0);
        x.give(0);
        x.image();
        x.give(-1);
        x.restore();
        C.due("he has it", x.status(4), 0);
        C.due("he bears it", x.ahead(1, 1), 2);
    }

    private static void wayAndDoneAreBroughtBack() {
        C.by("All is as THE IMAGE has it");
        Stone x = new Stone();
        x.person(Stone.WALKER, 0, 10, 40);
        x.give(0);
        x.ask(1, 5);
        x.image();
        x.ask(1, 999);
        x.steps(20);
        C.due("DONE is more than that WAY", x.status(3), 40);
        x.restore();
        C.due("WAY", x.status(2), 5);
        C.due("DONE", x.status(3), 0);
        C.due("no more than WAY", x.steps(20), 5);
    }

    private static void statusOfEach() {
        C.by("How many: 0 PEOPLE, 1 WEIGHT, 2 WAY, 3 DONE, 4 BEARER (NONE), 5 STEPS, 6 RULE, 7 TIRED "
            + "together, 8 SEED, 9 bodies that ran in the latest act() (all, kept or not); 11 to 17: "
            + "REFUSALS -1 to -7. NONE for another what.");
        Stone x = new Stone();
        x.person(Stone.WALKER, 0, 40, 40);
        x.person(Stone.WALKER, 0, 40, 40);
        x.person(Stone.WALKER, 0, 40, 40);
        x.ask(0, 22);
        x.ask(1, 333);
        x.ask(2, 29);
        x.give(1);
        x.steps(4);
        x.tire(0, 30);
        x.tire(2, 12);
        x.seed(-88);
        x.act(1, 2, 1);
        int[] due = {3, 22, 333, 28, 1, 4, 29, 46, -88, 4, -1, 0, 0, 0, 0, 0, 0, 0, -1, -1, -1};
        for (int what = 0; what < due.length; what++) {
            C.due("status(" + what + ")", x.status(what), due[what]);
        }
        int[] none = {-1, -2, 10, 18, 19, 100, Integer.MAX_VALUE, Integer.MIN_VALUE};
        for (int what : none) {
            C.due("status(" + what + ")", x.status(what), -1);
        }
    }

    private static void tiredTogether() {
        C.by("7 TIRED together");
        Stone x = new Stone();
        C.due("nobody", x.status(7), 0);
        x.image();
        for (int p = 0; p < 7; p++) {
            x.person(Stone.DEAF, 0, 1, 0);
            C.due("one who is not TIRED more", x.status(7), 99 * p);
            x.tire(p, 99);
            C.due("one more", x.status(7), 99 * (p + 1));
        }
        x.restore();
        C.due("nobody", x.status(7), 0);
    }

    private static void refusalsAreCounted() {
        C.by("11 to 17: REFUSALS -1 to -7.");
        Stone x = new Stone();
        x.person(Stone.WALKER, 0, 1, 0);
        x.show(0, 0);
        for (int i = 1; i <= 5; i++) {
            x.row(-1, 0, 0);
            x.ready(1);
            x.vow(0);
            x.judge(0, 0);
            x.vow(1);
            x.cases(1, 0, 0);
            x.row(1, 0, -1);
            x.personOf(0, 8);
            x.ahead(0, 2);
            x.steps(0);
            x.ahead(61, 0);
            x.praise(-1);
            x.row(1, 0, 161);
            C.refused(x, 2 * i, 2 * i, 2 * i, i, 2 * i, 3 * i, i);
        }
        x.image();
        x.restore();
        C.refused(x, 10, 10, 10, 5, 10, 15, 5);
        Stone other = new Stone();
        C.refused(other, 0, 0, 0, 0, 0, 0, 0);
    }

    private static void the512thCall() {
        C.by("An object is used for at most 512 calls after it has been made");
        Stone x = new Stone();
        x.person(Stone.DEAF, 0, 1, 40);
        x.ask(1, 999);
        x.give(0);
        for (int call = 4; call <= 510; call++) {
            C.due("call " + call, x.steps(1), call - 3);
        }
        C.due("the 511th", x.status(5), 507);
        C.due("the last", x.steps(60), 567);
        C.due("none is left", x.callsLeft(), 0);
        Stone y = new Stone();
        for (int call = 1; call < 512; call++) {
            y.row(call % 8, call % 4, 160);
        }
        C.due("the last", y.holds(511 % 8), 100 + 511 % 4);
    }
}
