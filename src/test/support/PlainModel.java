import java.util.ArrayList;
import java.util.Arrays;
import java.util.List;
import java.util.regex.Matcher;
import java.util.regex.Pattern;

/**
 * The document once more, told another way than the program does it (real subclasses, lists,
 * patterns, everything tried from the start), so that long runs of both can be laid side by side.
 */
final class PlainModel {
    /** A REFUSAL, told as the call tells it. */
    private static final class Refused extends RuntimeException {
        private static final long serialVersionUID = 1L;
        final int answer;

        Refused(int answer) {
            super("", null, false, false);
            this.answer = answer;
        }
    }

    private interface Call {
        long answer();
    }

    static class Walker {
        final int number;
        final int kind;
        final int a;
        final int strength;
        final int patience;
        int tired;

        Walker(int number, int kind, int a, int strength, int patience) {
            this.number = number;
            this.kind = kind;
            this.a = a;
            this.strength = strength;
            this.patience = patience;
        }

        static Walker of(int number, int kind, int a, int s, int p) {
            switch (kind) {
                case 0: return new Walker(number, 0, a, s, p);
                case 1: return new Pious(number, 1, a, s, p);
                case 2: return new Singer(number, 2, a, s, p);
                case 3: return new Bishop(number, 3, a, s, p);
                case 4: return new Child(number, 4, a, s, p);
                case 5: return new Deaf(number, 5, a, s, p);
                default: return new Clerk(number, 6, a, s, p);
            }
        }

        Walker twin() {
            Walker twin = of(number, kind, a, strength, patience);
            twin.tired = tired;
            return twin;
        }

        int pace(int weight) {
            int pace = 4 * strength / weight;
            return pace < 1 ? 1 : pace > 9 ? 9 : pace;
        }

        int toil(int weight) {
            return (int) Math.ceil((double) weight / strength);
        }

        int limit() {
            return patience;
        }

        boolean sighs() {
            return tired > limit();
        }

        int walks(List<Integer> trace, int x) {
            trace.add(10);
            return x + number;
        }

        int bears(List<Integer> trace, int x) {
            trace.add(11);
            return walks(trace, x) * 2;
        }

        int speaks(List<Integer> trace, int x) {
            trace.add(12);
            int borne = bears(trace, x);
            return borne ^ walks(trace, x - a);
        }
    }

    static class Pious extends Walker {
        Pious(int n, int k, int a, int s, int p) {
            super(n, k, a, s, p);
        }

        @Override int limit() {
            return patience + patience;
        }

        @Override int walks(List<Integer> trace, int x) {
            trace.add(20);
            return super.walks(trace, x) + a;
        }
    }

    static final class Bishop extends Pious {
        Bishop(int n, int k, int a, int s, int p) {
            super(n, k, a, s, p);
        }

        @Override int toil(int weight) {
            return super.toil(weight) + a;
        }

        @Override int walks(List<Integer> trace, int x) {
            trace.add(40);
            return super.walks(trace, x + 1);
        }
    }

    static class Singer extends Walker {
        Singer(int n, int k, int a, int s, int p) {
            super(n, k, a, s, p);
        }

        @Override int toil(int weight) {
            int plain = super.toil(weight);
            return plain / 2 + plain % 2;
        }

        @Override int bears(List<Integer> trace, int x) {
            trace.add(30);
            return super.bears(trace, x) * 3;
        }
    }

    static final class Deaf extends Singer {
        Deaf(int n, int k, int a, int s, int p) {
            super(n, k, a, s, p);
        }

        @Override boolean sighs() {
            return false;
        }

        @Override int speaks(List<Integer> trace, int x) {
            trace.add(60);
            return super.speaks(trace, x) ^ 5;
        }
    }

    static class Child extends Walker {
        Child(int n, int k, int a, int s, int p) {
            super(n, k, a, s, p);
        }

        @Override int pace(int weight) {
            int pace = super.pace(weight);
            return pace == 1 ? 1 : pace - 1;
        }

        @Override int speaks(List<Integer> trace, int x) {
            trace.add(50);
            return -super.speaks(trace, x);
        }

        @Override int walks(List<Integer> trace, int x) {
            trace.add(51);
            return super.walks(trace, x) - number;
        }
    }

    static final class Clerk extends Child {
        Clerk(int n, int k, int a, int s, int p) {
            super(n, k, a, s, p);
        }

        @Override int limit() {
            return patience + a;
        }

        @Override int walks(List<Integer> trace, int x) {
            trace.add(70);
            return super.walks(trace, x) * 2;
        }

        @Override int bears(List<Integer> trace, int x) {
            trace.add(71);
            return super.bears(trace, x - a);
        }
    }

    static final class Standing {
        List<Walker> people = new ArrayList<>();
        int weight = 20;
        int way = 100;
        int done = 0;
        Walker bearer = null;
        int steps = 0;
        boolean[] counts = {true, true, true, true, true};
        int seed = 1;
        Walker silent = null;

        Standing twin() {
            Standing t = new Standing();
            for (Walker w : people) {
                t.people.add(w.twin());
            }
            t.weight = weight;
            t.way = way;
            t.done = done;
            t.bearer = bearer == null ? null : t.people.get(bearer.number);
            t.steps = steps;
            t.counts = counts.clone();
            t.seed = seed;
            return t;
        }

        int bearerNumber() {
            return bearer == null ? -1 : bearer.number;
        }

        Walker at(int number) {
            return number == -1 ? null : people.get(number);
        }

        void stepWithoutSigh() {
            if (bearer == null) {
                people.forEach(w -> w.tired = w.tired < 2 ? 0 : w.tired - 2);
                return;
            }
            if (done == way) {
                return;
            }
            done = done + bearer.pace(weight) > way ? way : done + bearer.pace(weight);
            for (Walker w : people) {
                if (w != bearer) {
                    w.tired = w.tired < 1 ? 0 : w.tired - 1;
                }
            }
            int tired = bearer.tired + bearer.toil(weight);
            bearer.tired = tired > 99 ? 99 : tired;
        }

        Standing step() {
            stepWithoutSigh();
            for (int i = people.size() - 1; i >= 0 && counts[0]; i--) {
                Walker w = people.get(i);
                if (w.sighs() && w != bearer && w != silent) {
                    bearer = w;
                    w.tired = w.tired < 5 ? 0 : w.tired - 5;
                    break;
                }
            }
            steps++;
            return this;
        }

        Standing steps(int n) {
            for (int i = 0; i < n; i++) {
                step();
            }
            return this;
        }

        int over() {
            Standing t = twin();
            t.silent = silent == null ? null : t.people.get(silent.number);
            for (int n = 0; n <= 200; n++, t.step()) {
                if (t.done == t.way) {
                    return n;
                }
            }
            return -1;
        }

        void say(Walker who, int sort) {
            if (sort < 5 && counts[sort]) {
                bearer = who;
            }
            boolean heavier = sort == 1;
            if (sort == 5 && bearer != who) {
                bearer = who;
            } else if (sort == 5 && weight <= who.strength) {
                bearer = null;
            } else if (sort == 5) {
                heavier = true;
            }
            if (heavier && weight < 99) {
                weight++;
            }
        }

        Standing talk(int[] told, int n) {
            for (int i = 0; i < n; i++) {
                say(people.get(told[i] / 10), told[i] % 10);
                step();
            }
            return this;
        }

        int draw(int below) {
            seed = seed * 1103515245 + 12345;
            return (int) ((seed & 0xffffffffL) / 65536 % below);
        }

        int rule() {
            int bits = 0;
            for (int i = 0; i < 5; i++) {
                bits += counts[i] ? 1 << i : 0;
            }
            return bits;
        }
    }

    private Standing now = new Standing();
    private Standing image = null;
    /** null, an Integer (one of the PEOPLE), or a long[] whose sort stands in sorts. */
    private final Object[] shelves = new Object[8];
    private final int[] sorts = new int[8];
    private final int[] refusals = new int[8];
    private List<Integer> trace = new ArrayList<>();
    private int fault = -1;

    private long call(Call call) {
        try {
            return call.answer();
        } catch (Refused r) {
            int plain = r.answer < -10 ? r.answer + 10 : r.answer;
            refusals[-plain]++;
            return r.answer;
        }
    }

    private static void need(boolean fine, int answer) {
        if (!fine) {
            throw new Refused(answer);
        }
    }

    private static boolean in(long v, long least, long most) {
        return least <= v && v <= most;
    }

    private boolean one(int p) {
        return in(p, 0, now.people.size() - 1);
    }

    private long[] rowIn(int s, int far) {
        need(in(s, 0, 7), far - 1);
        need(!(shelves[s] instanceof Integer), far - 2);
        need(shelves[s] != null, far - 3);
        return (long[]) shelves[s];
    }

    private int[] told(int s, int n, long elements, boolean what, int far) {
        long[] row = rowIn(s, far);
        need(n >= 0, far - 4);
        need(what && row.length >= elements, far - 5);
        return Arrays.stream(row).mapToInt(v -> (int) (v & 0xffffffffL)).toArray();
    }

    long row(int s, int sort, int n) {
        return call(() -> {
            need(in(s, 0, 7), -1);
            need(n >= 0, -4);
            need(in(sort, 0, 3), -6);
            need(n <= 160, -7);
            shelves[s] = new long[n];
            sorts[s] = sort;
            return 1;
        });
    }

    long set(int s, int i, long v) {
        return call(() -> {
            long[] row = rowIn(s, 0);
            need(in(i, 0, row.length - 1), -5);
            int lost = 64 - (8 << sorts[s]);
            row[i] = v << lost >> lost;
            return 1;
        });
    }

    long copy(int p, int q, int i, int j, int n) {
        return call(() -> {
            need(in(p, 0, 7) && in(q, 0, 7), -1);
            need(!(shelves[p] instanceof Integer) && !(shelves[q] instanceof Integer), -2);
            need(shelves[p] == null || shelves[q] == null || sorts[p] == sorts[q], -2);
            need(shelves[p] != null && shelves[q] != null, -3);
            need(n >= 0, -4);
            long[] from = ((long[]) shelves[p]).clone();
            long[] to = (long[]) shelves[q];
            need(i >= 0 && j >= 0 && (long) i + n <= from.length && (long) j + n <= to.length, -5);
            for (int k = 0; k < n; k++) {
                to[j + k] = from[i + k];
            }
            return 1;
        });
    }

    long element(int s, int i) {
        boolean row = in(s, 0, 7) && shelves[s] instanceof long[];
        return row && in(i, 0, ((long[]) shelves[s]).length - 1) ? ((long[]) shelves[s])[i] : 0;
    }

    long show(int s, int p) {
        return call(() -> {
            need(in(s, 0, 7) && (p == -1 || one(p)), -1);
            shelves[s] = p == -1 ? null : Integer.valueOf(p);
            return p == -1 ? 0 : 1;
        });
    }

    long holds(int s) {
        if (!in(s, 0, 7) || shelves[s] == null) {
            return -1;
        }
        return shelves[s] instanceof Integer ? (Integer) shelves[s] : 100 + sorts[s];
    }

    long says(int s, int kind) {
        return call(() -> {
            need(in(s, 0, 7) && in(kind, 0, 6), -1);
            need(!(shelves[s] instanceof long[]), -2);
            need(shelves[s] != null, -3);
            Walker w = now.people.get((Integer) shelves[s]);
            Class<?>[] kinds = {Walker.class, Pious.class, Singer.class, Bishop.class, Child.class,
                Deaf.class, Clerk.class};
            need(kinds[kind].isInstance(w), -2);
            int[] said = {w.tired, w.limit(), w.toil(now.weight), w.limit(), w.pace(now.weight),
                w.toil(now.weight), w.pace(now.weight)};
            return said[kind];
        });
    }

    long person(int kind, int a, int strength, int patience) {
        return call(() -> {
            need(in(kind, 0, 6), -1);
            need(in(a, 0, 9) && in(strength, 1, 40) && in(patience, 0, 40), -6);
            need(now.people.size() < 7, -7);
            now.people.add(Walker.of(now.people.size(), kind, a, strength, patience));
            return now.people.size() - 1;
        });
    }

    long ask(int what, int v) {
        return call(() -> {
            need(in(what, 0, 2), -6);
            int was = what == 0 ? now.weight : what == 1 ? now.way : now.rule();
            if (what == 0) {
                need(in(v, 1, 99), -6);
                now.weight = v;
            } else if (what == 1) {
                need(in(v, now.done, 999), -6);
                now.way = v;
            } else {
                need(in(v, 0, 31), -6);
                for (int i = 0; i < 5; i++) {
                    now.counts[i] = (v & 1 << i) != 0;
                }
            }
            return was;
        });
    }

    long tire(int p, int v) {
        return call(() -> {
            need(one(p), -1);
            need(in(v, 0, 99), -6);
            int was = now.at(p).tired;
            now.at(p).tired = v;
            return was;
        });
    }

    long give(int p) {
        return call(() -> {
            need(p == -1 || one(p), -11);
            int was = now.bearerNumber();
            now.bearer = now.at(p);
            return was;
        });
    }

    long personOf(int p, int what) {
        return call(() -> {
            need(one(p) && in(what, 0, 7), -5);
            Walker w = now.at(p);
            int[] all = {w.kind, w.a, w.strength, w.patience, w.tired, w.pace(now.weight),
                w.toil(now.weight), w.limit()};
            return all[what];
        });
    }

    private static final String N = " [0-9][0-9]?";
    private static final String ITEM = "(person" + N + N + N + N + "|weight" + N + "|way" + N
        + "|bears" + N + "|lies|counts" + N + "|free" + N + ")";
    private static final Pattern TEXT = Pattern.compile(ITEM + "(;" + ITEM + ")*+");

    long vow(int s) {
        return call(() -> {
            long[] row = rowIn(s, 0);
            StringBuilder text = new StringBuilder();
            for (long v : row) {
                text.append((int) v >= 0 && (int) v < 128 ? (char) (int) v : '?');
            }
            Standing t = now.twin();
            fault = faultOf(text.toString(), t);
            need(fault == -1, -6);
            now = t;
            return text.toString().split(";").length;
        });
    }

    /** How far the letters alone may stand; then what their numbers and words say, from the left. */
    private static int faultOf(String text, Standing t) {
        int far = 0;
        while (far < text.length() && mayGoOn(text.substring(0, far + 1))) {
            far++;
        }
        int at = 0;
        for (String item : text.substring(0, far).split(";", -1)) {
            if (item.startsWith("person") && t.people.size() == 7) {
                return at;
            }
            String[] words = item.split(" ", -1);
            int place = at + words[0].length();
            int[] n = new int[words.length];
            for (int i = 1; i < words.length && !words[i].isEmpty(); i++) {
                n[i] = Integer.parseInt(words[i]);
                if (!mayBe(words[0], i, n[i], t)) {
                    return place + 1;
                }
                place += 1 + words[i].length();
            }
            tell(words[0], n, t);
            at += item.length() + 1;
        }
        return far == text.length() && TEXT.matcher(text).matches() ? -1 : far;
    }

    private static boolean mayGoOn(String text) {
        Matcher m = TEXT.matcher(text);
        return m.matches() || m.hitEnd();
    }

    private static boolean mayBe(String word, int i, int n, Standing t) {
        switch (word) {
            case "person": return i == 1 ? n <= 6 : i == 2 ? n <= 9 : i == 3 ? in(n, 1, 40) : n <= 40;
            case "weight": return n > 0;
            case "way": return n >= t.done;
            case "bears": return n < t.people.size();
            default: return n < 5;
        }
    }

    /** An ITEM that isn't whole is told too, or not; a FAULT comes behind it anyway. */
    private static void tell(String word, int[] n, Standing t) {
        if (word.equals("person") && n.length == 5 && n[3] > 0) {
            t.people.add(Walker.of(t.people.size(), n[1], n[2], n[3], n[4]));
        } else if (word.equals("lies")) {
            t.bearer = null;
        } else if (n.length == 2 && word.equals("weight")) {
            t.weight = n[1];
        } else if (n.length == 2 && word.equals("way")) {
            t.way = n[1];
        } else if (n.length == 2 && word.equals("bears") && n[1] < t.people.size()) {
            t.bearer = t.at(n[1]);
        } else if (n.length == 2 && (word.equals("counts") || word.equals("free"))) {
            t.counts[n[1]] = word.equals("counts");
        }
    }

    long fault() {
        return fault;
    }

    long sighs(int what) {
        return call(() -> {
            need(in(what, 0, 1), -5);
            int bits = 0;
            for (Walker w : now.people) {
                Walker hinted = w.twin();
                hinted.tired += 5;
                boolean is = what == 0 ? w.sighs() : hinted.sighs() && !w.sighs();
                bits |= is ? 1 << w.number : 0;
            }
            return bits;
        });
    }

    long ready(int p) {
        return call(() -> {
            need(one(p), -11);
            Walker w = now.at(p).twin();
            for (int more = 0; more < 200; more++, w.tired++) {
                if (w.sighs()) {
                    return more;
                }
            }
            return -1;
        });
    }

    long ahead(int n, int what) {
        return call(() -> {
            need(in(what, 0, 1), -15);
            need(in(n, 0, 60), -16);
            Standing t = now.twin().steps(n);
            return what == 0 ? t.bearerNumber() : t.done;
        });
    }

    long tired(int p, int n) {
        return call(() -> {
            need(one(p), -1);
            need(in(n, 0, 60), -6);
            return now.twin().steps(n).at(p).tired;
        });
    }

    long over() {
        return now.over();
    }

    long alone(int p, int what) {
        return call(() -> {
            need(one(p), -11);
            need(in(what, 0, 1), -15);
            Standing t = now.twin();
            t.bearer = t.at(p);
            if (what == 1) {
                t.way = 1000000;
            }
            for (int n = 0; n <= (what == 0 ? 999 : 100); n++, t.stepWithoutSigh()) {
                if (what == 0 ? t.done == t.way : t.bearer.tired > t.bearer.limit()) {
                    return n;
                }
            }
            return -1;
        });
    }

    long relay(int k, int m, int i) {
        return call(() -> {
            need(!in(k, 1, 4) || in(i, -1, k - 1), -15);
            need(in(k, 1, 4) && in(m, 1, 20), -16);
            int count = now.people.size();
            int best = -1;
            int[] row = new int[k];
            int[] bestRow = null;
            for (long left = Math.round(Math.pow(count, k)); left > 0; left--) {
                int done = relayed(row, m);
                if (done > best) {
                    best = done;
                    bestRow = row.clone();
                }
                for (int leg = k - 1; leg >= 0 && ++row[leg] == count; leg--) {
                    row[leg] = 0;
                }
            }
            return i == -1 ? best : bestRow == null ? -1 : bestRow[i];
        });
    }

    private int relayed(int[] row, int m) {
        Standing t = now.twin();
        for (int who : row) {
            t.bearer = t.at(who);
            for (int step = 0; step < m; step++) {
                t.stepWithoutSigh();
                if (t.people.stream().anyMatch(w -> w.tired > 50)) {
                    return -1;
                }
            }
        }
        return t.done;
    }

    private int[] caseRow(int s, int n, boolean what) {
        int[] row = told(s, n, 2L * n, what, -10);
        need(n <= 40, -16);
        for (int i = 0; i < n; i++) {
            need(in(row[2 * i], 0, 4) && in(row[2 * i + 1], 0, 1), -16);
        }
        return row;
    }

    long cases(int s, int n, int what) {
        return call(() -> {
            int[] row = caseRow(s, n, in(what, 0, 1));
            int found = -1;
            for (int rule = 0; rule < 32; rule++) {
                boolean fits = true;
                for (int i = 0; i < n; i++) {
                    fits &= (rule >> row[2 * i] & 1) == row[2 * i + 1];
                }
                found = fits && (what == 1 || found == -1) ? rule : found;
            }
            return found;
        });
    }

    long clash(int s, int n) {
        return call(() -> {
            int[] row = caseRow(s, n, true);
            for (int i = 0; i < n; i++) {
                for (int j = 0; j < i; j++) {
                    if (row[2 * i] == row[2 * j] && row[2 * i + 1] != row[2 * j + 1]) {
                        return i;
                    }
                }
            }
            return -1;
        });
    }

    long borne(int s, int n) {
        return call(() -> {
            int[] row = told(s, n, n, true, 0);
            need(in(n, 1, 40), -6);
            int bits = 0;
            for (int p = -1; p < now.people.size(); p++) {
                boolean fits = true;
                for (int i = 0; i < n; i++) {
                    Standing t = now.twin();
                    t.bearer = t.at(p);
                    fits &= t.steps(i + 1).done - now.done == row[i];
                }
                bits |= fits ? 1 << (p == -1 ? now.people.size() : p) : 0;
            }
            return bits;
        });
    }

    long without() {
        return call(() -> {
            need(!now.people.isEmpty(), -5);
            long best = 0;
            long soonest = Long.MAX_VALUE;
            for (Walker w : now.people) {
                Standing t = now.twin();
                t.silent = t.at(w.number);
                t.bearer = t.bearer == t.silent ? null : t.bearer;
                long over = t.over() == -1 ? 1000 : t.over();
                if (over < soonest) {
                    soonest = over;
                    best = w.number;
                }
            }
            return best;
        });
    }

    private int overBy(int weight) {
        Standing t = now.twin();
        t.weight = weight;
        return t.over();
    }

    long weights(int t, int what) {
        return call(() -> {
            need(in(what, 0, 1), -15);
            need(in(t, 0, 200), -16);
            List<Integer> fitting = new ArrayList<>();
            for (int weight = 1; weight <= 99; weight++) {
                if (overBy(weight) == t) {
                    fitting.add(weight);
                }
            }
            return what == 0 ? fitting.size() : fitting.isEmpty() ? -1 : fitting.get(0);
        });
    }

    long praise(int t) {
        return call(() -> {
            need(in(t, 0, 200), -16);
            int times = 0;
            int over = overBy(now.weight);
            while (over != -1 && over <= t && times < 99) {
                times++;
                over = overBy(Math.min(99, now.weight + times));
            }
            boolean later = over == -1 || over > t;
            return later && times > 0 ? times : -1;
        });
    }

    private int wrong(int[] row, int n) {
        need(n <= 40, -16);
        for (int i = 0; i < n; i++) {
            if (row[i] < 0 || row[i] % 10 > 5 || row[i] / 10 >= now.people.size()) {
                return i;
            }
        }
        return -1;
    }

    long judge(int s, int n) {
        return call(() -> wrong(told(s, n, n, true, -10), n));
    }

    long behind(int s, int n, int what) {
        return call(() -> {
            int[] row = told(s, n, n, in(what, 0, 2), -10);
            need(wrong(row, n) == -1, -16);
            Standing t = now.twin().talk(row, n);
            return what == 0 ? t.bearerNumber() : what == 1 ? t.done : t.weight;
        });
    }

    long done(int s, int n) {
        return call(() -> {
            int[] row = told(s, n, n, true, 0);
            need(n <= 40 && wrong(row, n) == -1, -6);
            return now.talk(row, n).done;
        });
    }

    long say(int p, int sort) {
        return call(() -> {
            need(one(p), -1);
            need(in(sort, 0, 5), -6);
            now.say(now.at(p), sort);
            return now.bearerNumber() == p ? 1 : 0;
        });
    }

    long steps(int n) {
        return call(() -> {
            need(in(n, 1, 60), -6);
            return now.steps(n).done;
        });
    }

    long days(int n) {
        return call(() -> {
            need(!now.people.isEmpty(), -5);
            need(in(n, 1, 60), -6);
            for (int i = 0; i < n; i++) {
                Walker who = now.at(now.draw(now.people.size()));
                int sort = now.draw(12);
                if (sort < 6) {
                    now.say(who, sort);
                }
                now.step();
            }
            return now.done;
        });
    }

    long seed(int v) {
        int was = now.seed;
        now.seed = v;
        return was;
    }

    long act(int p, int move, int x) {
        trace = new ArrayList<>();
        if (!one(p)) {
            return 0;
        }
        switch (move) {
            case 0: return now.at(p).walks(trace, x);
            case 1: return now.at(p).bears(trace, x);
            case 2: return now.at(p).speaks(trace, x);
            default: return 0;
        }
    }

    long trace(int i) {
        return in(i, 0, Math.min(20, trace.size()) - 1) ? trace.get(i) : -1;
    }

    long image() {
        image = now.twin();
        return image.people.size();
    }

    long restore() {
        return call(() -> {
            need(image != null, -6);
            now = image.twin();
            for (int s = 0; s < 8; s++) {
                if (shelves[s] instanceof Integer && !one((Integer) shelves[s])) {
                    shelves[s] = null;
                }
            }
            return now.people.size();
        });
    }

    long status(int what) {
        int together = now.people.stream().mapToInt(w -> w.tired).sum();
        int[] all = {now.people.size(), now.weight, now.way, now.done, now.bearerNumber(), now.steps,
            now.rule(), together, now.seed, trace.size(), -1, refusals[1], refusals[2], refusals[3],
            refusals[4], refusals[5], refusals[6], refusals[7]};
        return in(what, 0, 17) ? all[what] : -1;
    }
}
