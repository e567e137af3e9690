import java.util.Random;

/** Long runs of drawn calls, each answer laid beside that of PlainModel. */
public final class AgainstPlainModel {
    private static final int RUNS = 2000;
    /** What one turn and the end of a run may take, at most. */
    private static final int CALLS_OF_A_TURN = 130;
    private static final int[] EDGES = {Integer.MIN_VALUE, -2, -1, 0, 1, 2, 6, 7, 8, 31, 32, 40, 41,
        60, 61, 99, 100, 160, 161, 200, 201, 999, 1000, Integer.MAX_VALUE, 1 << 30};
    private static final String[] TEXTS = {"person", "weight", "way", "bears", "lies", "counts",
        "free", ";", " ", "1", "0", "person 1 2 30 4", "bears 0", "bears 1;weight 40", "lies;"};

    private final Checks c;
    private final Random random;
    private final Stone x = new Stone();
    private final PlainModel y = new PlainModel();
    private final String name;

    private AgainstPlainModel(Checks c, int run) {
        this.c = c;
        this.random = new Random(run);
        this.name = "run " + run + " ";
    }

    public static void main(String[] args) {
        Checks c = new Checks();
        for (int run = 0; run < RUNS; run++) {
            new AgainstPlainModel(c, run).go();
        }
        c.end("AgainstPlainModel");
    }

    private void go() {
        int people = random.nextInt(8);
        for (int p = 0; p < people; p++) {
            newPerson(random.nextInt(7));
        }
        while (x.hasCalls(CALLS_OF_A_TURN)) {
            int which = random.nextInt(48);
            if (which < 16) {
                changing(which);
            } else if (which < 40) {
                telling(which);
            } else {
                arranging(which);
            }
        }
        for (int what = -1; what < 19; what++) {
            c.due(name + "status " + what, x.status(what), y.status(what));
        }
    }

    private void due(String call, long got, long want, int... args) {
        c.due(name + call + java.util.Arrays.toString(args), got, want);
    }

    private int in(int least, int most) {
        return random.nextInt(40) == 0 ? EDGES[random.nextInt(EDGES.length)]
            : least + random.nextInt(most - least + 1);
    }

    private int onePerson() {
        int count = x.status(0);
        return in(0, Math.max(0, count - (random.nextInt(10) == 0 ? 0 : 1)));
    }

    private void newPerson(int kind) {
        int a = in(0, 9);
        int s = in(1, random.nextBoolean() ? 40 : 10);
        int p = in(0, random.nextBoolean() ? 40 : 8);
        due("person", x.person(kind, a, s, p), y.person(kind, a, s, p), kind, a, s, p);
    }

    private void changing(int which) {
        int p = onePerson();
        int n = in(1, 12);
        int v = in(0, 99);
        switch (which) {
            case 0: due("ask", x.ask(0, v), y.ask(0, v), 0, v); break;
            case 1:
                int way = in(x.status(3), Math.min(999, x.status(3) + 200));
                due("ask", x.ask(1, way), y.ask(1, way), 1, way);
                break;
            case 2: due("ask", x.ask(2, v % 32), y.ask(2, v % 32), 2, v % 32); break;
            case 3: due("tire", x.tire(p, v), y.tire(p, v), p, v); break;
            case 4: due("give", x.give(p), y.give(p), p); break;
            case 5: due("give", x.give(-1), y.give(-1), -1); break;
            case 6: if (random.nextInt(12) == 0) { newPerson(in(0, 6)); } break;
            case 7: if (random.nextInt(4) == 0) { due("steps", x.steps(n), y.steps(n), n); } break;
            case 8: due("steps", x.steps(1), y.steps(1), 1); break;
            case 9: due("say", x.say(p, n % 8), y.say(p, n % 8), p, n % 8); break;
            case 10: due("days", x.days(n % 4), y.days(n % 4), n % 4); break;
            case 11: due("seed", x.seed(v), y.seed(v), v); break;
            case 12: if (random.nextInt(3) == 0) { due("image", x.image(), y.image()); } break;
            case 13: due("restore", x.restore(), y.restore()); break;
            case 14:
                int move = in(0, 2);
                due("act", x.act(p, move, v), y.act(p, move, v), p, move, v);
                break;
            default:
                int wild = random.nextInt();
                int edge = EDGES[random.nextInt(EDGES.length)];
                due("ask", x.ask(edge, wild), y.ask(edge, wild), edge, wild);
                due("act", x.act(p, 2, wild), y.act(p, 2, wild), p, 2, wild);
                break;
        }
    }

    private void telling(int which) {
        int p = onePerson();
        int n = in(0, 20);
        int what = in(0, 1);
        int t = in(0, random.nextBoolean() ? 30 : 200);
        switch (which) {
            case 16: due("sighs", x.sighs(what), y.sighs(what), what); break;
            case 17: due("ready", x.ready(p), y.ready(p), p); break;
            case 18: due("ahead", x.ahead(3 * n, what), y.ahead(3 * n, what), 3 * n, what); break;
            case 19: due("tired", x.tired(p, n), y.tired(p, n), p, n); break;
            case 20: due("over", x.over(), y.over()); break;
            case 21: due("alone", x.alone(p, what), y.alone(p, what), p, what); break;
            case 22:
                int k = random.nextInt(8) == 0 ? in(1, 4) : in(1, 2);
                int m = in(1, 20);
                int i = in(-1, 2);
                due("relay", x.relay(k, m, i), y.relay(k, m, i), k, m, i);
                break;
            case 23: due("without", x.without(), y.without()); break;
            case 24:
                t = random.nextInt(3) > 0 ? x.over() : t;
                due("weights", x.weights(t, what), y.weights(t, what), t, what);
                break;
            case 25:
                t = random.nextInt(3) > 0 ? x.over() + random.nextInt(20) : t;
                due("praise", x.praise(t), y.praise(t), t);
                break;
            case 26: due("trace", x.trace(n), y.trace(n), n); break;
            case 27: due("personOf", x.personOf(p, n % 9), y.personOf(p, n % 9), p, n % 9); break;
            case 28: due("status", x.status(n), y.status(n), n); break;
            case 29: due("fault", x.fault(), y.fault()); break;
            default: byRow(which, in(0, 7), n, what); break;
        }
    }

    private void byRow(int which, int s, int n, int what) {
        int kind = in(0, 6);
        int three = in(0, 2);
        switch (which) {
            case 30: due("holds", x.holds(s), y.holds(s), s); break;
            case 31: due("says", x.says(s, kind), y.says(s, kind), s, kind); break;
            case 32: due("element", x.element(s, n), y.element(s, n), s, n); break;
            case 33: due("cases", x.cases(s, n, what), y.cases(s, n, what), s, n, what); break;
            case 34: due("clash", x.clash(s, n), y.clash(s, n), s, n); break;
            case 35: due("borne", x.borne(s, n), y.borne(s, n), s, n); break;
            case 36: due("judge", x.judge(s, n), y.judge(s, n), s, n); break;
            case 37: due("behind", x.behind(s, n, three), y.behind(s, n, three), s, n, three); break;
            case 38: if (n < 5) { due("done", x.done(s, n), y.done(s, n), s, n); } break;
            default: due("vow", x.vow(s), y.vow(s), s); break;
        }
    }

    private void arranging(int which) {
        int s = in(0, 7);
        int p = onePerson();
        int sort = in(0, 3);
        int n = in(0, 40);
        switch (which) {
            case 40: newRow(s, sort, n); break;
            case 41: due("show", x.show(s, p), y.show(s, p), s, p); break;
            case 42: if (random.nextInt(3) == 0) { due("show", x.show(s, -1), y.show(s, -1), s); } break;
            case 43:
                int q = in(0, 7);
                int i = in(0, 9);
                int j = in(0, 9);
                int k = in(0, 9);
                due("copy", x.copy(s, q, i, j, k), y.copy(s, q, i, j, k), s, q, i, j, k);
                break;
            case 44:
                long v = random.nextLong();
                due("set", x.set(s, n, v), y.set(s, n, v), s, n);
                break;
            case 45: tellText(s); break;
            default: fill(s, sort, which == 46); break;
        }
    }

    private void newRow(int s, int sort, int n) {
        due("row", x.row(s, sort, n), y.row(s, sort, n), s, sort, n);
    }

    private void put(int s, int i, long v) {
        due("set", x.set(s, i, v), y.set(s, i, v), s, i);
    }

    /** A ROW of what may be told: cases, a talk, or how far the stone comes. */
    private void fill(int s, int sort, boolean cases) {
        int n = 2 + random.nextInt(10);
        newRow(s, sort, n);
        int rule = random.nextInt(32);
        int bearer = onePerson();
        boolean talk = random.nextBoolean();
        int is = x.status(3);
        int was = x.give(bearer);
        y.give(bearer);
        for (int i = 0; i < n; i++) {
            long high = random.nextInt(4) == 0 ? 1L << 40 : 0;
            int counted = random.nextInt(5);
            long v = talk ? 10 * onePerson() + random.nextInt(6) : x.ahead(i + 1, 1) - is;
            v = !cases ? v : i % 2 == 0 ? counted : rule >> (int) x.element(s, i - 1) & 1;
            put(s, i, high + v);
        }
        due("judge", x.judge(s, n), y.judge(s, n), s, n);
        due("behind", x.behind(s, n, 1), y.behind(s, n, 1), s, n, 1);
        if (was >= -1) {
            x.give(was);
            y.give(was);
        }
        due("borne", x.borne(s, n), y.borne(s, n), s, n);
        due("cases", x.cases(s, n / 2, 0), y.cases(s, n / 2, 0), s, n / 2, 0);
        due("cases", x.cases(s, n / 2, 1), y.cases(s, n / 2, 1), s, n / 2, 1);
        due("clash", x.clash(s, n / 2), y.clash(s, n / 2), s, n / 2);
    }

    private void tellText(int s) {
        StringBuilder text = new StringBuilder();
        int items = 1 + random.nextInt(3);
        for (int i = 0; i < items; i++) {
            text.append(i == 0 ? "" : ";").append(item());
        }
        if (random.nextInt(3) == 0 && text.length() > 0) {
            int at = random.nextInt(text.length());
            String odd = TEXTS[random.nextInt(TEXTS.length)];
            int end = Math.min(text.length(), at + random.nextInt(3));
            text.replace(at, end, random.nextBoolean() ? odd : "");
        }
        if (random.nextInt(6) == 0) {
            text.setLength(random.nextInt(text.length() + 1));
        }
        newRow(s, random.nextInt(4), Math.min(160, text.length()));
        for (int i = 0; i < text.length(); i++) {
            put(s, i, text.charAt(i));
        }
        due("vow of " + text, x.vow(s), y.vow(s), s);
        due("fault of " + text, x.fault(), y.fault());
    }

    private String item() {
        switch (random.nextInt(7)) {
            case 0:
                return "person " + number(7) + " " + number(9) + " " + number(40) + " " + number(41);
            case 1: return "weight " + number(99);
            case 2: return "way " + number(99);
            case 3: return "bears " + number(3);
            case 4: return "lies";
            case 5: return "counts " + number(5);
            default: return "free " + number(5);
        }
    }

    private String number(int most) {
        int n = random.nextInt(25) == 0 ? random.nextInt(120) : random.nextInt(most + 1);
        return (n < 10 && random.nextInt(6) == 0 ? "0" : "") + n;
    }
}
