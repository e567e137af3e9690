/** Counts the answers that are not as due, for one test; what many tests do lies here too. */
final class Checks {
    private int wrong = 0;
    private int asked = 0;

    void due(String call, long got, long want) {
        asked++;
        if (got != want) {
            wrong++;
            if (wrong <= 40) {
                System.out.println(call + " answered " + got + ", due is " + want);
            }
        }
    }

    /** How many REFUSALS -1 to -7 there were. */
    void refused(WhoComplainsCarries x, int... counts) {
        for (int i = 0; i < counts.length; i++) {
            due("status(" + (11 + i) + ")", x.status(11 + i), counts[i]);
        }
    }

    void end(String name) {
        System.out.println(name + ": " + asked + " answers, " + wrong + " not as due");
        if (wrong != 0) {
            System.exit(1);
        }
    }

    /** The shelf holds a new ROW (of bytes) of the letters. */
    static void text(WhoComplainsCarries x, int s, String letters) {
        x.row(s, 0, letters.length());
        for (int i = 0; i < letters.length(); i++) {
            x.set(s, i, letters.charAt(i));
        }
    }

    /** The shelf holds a new ROW (of ints) of the numbers. */
    static void numbers(WhoComplainsCarries x, int s, int... told) {
        x.row(s, 2, told.length);
        for (int i = 0; i < told.length; i++) {
            x.set(s, i, told[i]);
        }
    }
}
