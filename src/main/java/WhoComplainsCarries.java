/**
 * Who complains of it carries it: a stone that must be got over hills and lies on whoever last
 * spoke of it. ../shared/DOC.md says what each call promises; its words in capitals are used here.
 */
public final class WhoComplainsCarries {
    public static final int NONE = -1;

    private static final int MOST_PEOPLE = 7;
    private static final int MOST_SHELVES = 8;
    private static final int MOST_ELEMENTS = 160;
    private static final int MOST_WEIGHT = 99;
    private static final int MOST_WAY = 999;
    private static final int MOST_TIRED = 99;
    private static final int MOST_STRENGTH = 40;
    private static final int MOST_PATIENCE = 40;
    private static final int MOST_A = 9;
    private static final int MOST_STEPS = 60;
    private static final int MOST_OVER = 200;
    private static final int MOST_ALONE = 100;
    private static final int MOST_TOLD = 40;
    private static final int MOST_LEGS = 4;
    private static final int MOST_LEG_STEPS = 20;
    private static final int MOST_RELAY_TIRED = 50;
    private static final int MOST_TRACE = 20;
    private static final int HINT_TIRES = 5;
    private static final int SIGH_RESTS = 5;

    private static final int KINDS = 7;
    private static final int WALKER = 0;
    private static final int PIOUS = 1;
    private static final int SINGER = 2;
    private static final int BISHOP = 3;
    private static final int CHILD = 4;
    private static final int DEAF = 5;
    private static final int CLERK = 6;
    private static final int[] KIND_ABOVE = {-1, 0, 0, 1, 0, 2, 4};

    private static final int RULE_SORTS = 5;
    private static final int WHOLE_RULE = 31;
    private static final int SIGH = 0;
    private static final int PRAISE = 1;
    private static final int LIGHT = 5;
    private static final int DRAWN_SORTS = 12;

    private static final int WALKS = 0;
    private static final int BEARS = 1;
    private static final int SPEAKS = 2;
    private static final int MOVES = 3;
    /** A row of three for each KIND: its own bodies of walks, bears, speaks; 0 where it has none. */
    private static final int[] BODIES = {
        10, 11, 12,
        20, 0, 0,
        0, 30, 0,
        40, 0, 0,
        51, 0, 50,
        0, 0, 60,
        70, 71, 0};
    /** No MOVE opens more than eight bodies at once; more than this can't be, and is cut off. */
    private static final int MOST_OPEN_BODIES = 30;

    private static final int NOBODY = -1;
    private static final int OTHER = -2;
    private static final int NOTHING = -3;
    private static final int BELOW = -4;
    private static final int BEYOND = -5;
    private static final int WRONG = -6;
    private static final int ROOM = -7;
    private static final int FINE = 0;

    private final Shelf[] shelves;
    private final Vow now;
    private final Vow image;
    /** What might come is tried out here, so that no call has to make a new one. */
    private final Vow trial;
    private final RelaySearch relaySearch;
    private final VowReader reader;
    private final Moves moves;
    private final int[] refusals;
    private boolean imageTaken;
    private int fault;

    public WhoComplainsCarries() {
        shelves = new Shelf[MOST_SHELVES];
        for (int s = 0; s < MOST_SHELVES; s++) {
            shelves[s] = new Shelf();
        }
        now = new Vow();
        image = new Vow();
        trial = new Vow();
        relaySearch = new RelaySearch();
        reader = new VowReader();
        moves = new Moves();
        refusals = new int[8];
        imageTaken = false;
        fault = NONE;
    }

    // ---- SHELVES ----

    public int row(int s, int sort, int n) {
        if (!isShelf(s)) {
            return refuse(NOBODY);
        }
        if (n < 0) {
            return refuse(BELOW);
        }
        if (sort < 0 || sort > 3) {
            return refuse(WRONG);
        }
        if (n > MOST_ELEMENTS) {
            return refuse(ROOM);
        }
        shelves[s].holdRow(sort, n);
        return 1;
    }

    public int set(int s, int i, long v) {
        int refusal = rowRefusal(s);
        if (refusal != FINE) {
            return refuse(refusal);
        }
        if (!shelves[s].hasElement(i)) {
            return refuse(BEYOND);
        }
        shelves[s].put(i, v);
        return 1;
    }

    public int copy(int p, int q, int i, int j, int n) {
        int refusal = copyRefusal(p, q, i, j, n);
        if (refusal != FINE) {
            return refuse(refusal);
        }
        shelves[q].takeFrom(shelves[p], i, j, n);
        return 1;
    }

    public long element(int s, int i) {
        return isShelf(s) ? shelves[s].longAt(i) : 0L;
    }

    public int show(int s, int person) {
        if (!isShelf(s) || !isPersonOrNone(person)) {
            return refuse(NOBODY);
        }
        if (person == NONE) {
            shelves[s].holdNothing();
            return 0;
        }
        shelves[s].holdPerson(person);
        return 1;
    }

    public int holds(int s) {
        if (!isShelf(s)) {
            return NONE;
        }
        Shelf shelf = shelves[s];
        if (shelf.isRow()) {
            return 100 + shelf.sort;
        }
        return shelf.isPerson() ? shelf.person : NONE;
    }

    public int says(int s, int kind) {
        if (!isShelf(s) || !isKind(kind)) {
            return refuse(NOBODY);
        }
        Shelf shelf = shelves[s];
        if (shelf.isRow()) {
            return refuse(OTHER);
        }
        if (!shelf.isPerson() || !isPerson(shelf.person)) {
            return refuse(NOTHING);
        }
        Person one = now.people[shelf.person];
        if (!isUnder(one.kind, kind)) {
            return refuse(OTHER);
        }
        switch (kind) {
            case PIOUS:
            case BISHOP:
                return one.limit();
            case SINGER:
            case DEAF:
                return one.toil(now.weight);
            case CHILD:
            case CLERK:
                return one.pace(now.weight);
            default:
                return one.tired;
        }
    }

    // ---- THE VOW ----

    public int person(int kind, int a, int strength, int patience) {
        if (!isKind(kind)) {
            return refuse(NOBODY);
        }
        if (!isIn(a, 0, MOST_A) || !isIn(strength, 1, MOST_STRENGTH)
                || !isIn(patience, 0, MOST_PATIENCE)) {
            return refuse(WRONG);
        }
        if (now.count >= MOST_PEOPLE) {
            return refuse(ROOM);
        }
        now.addPerson(kind, a, strength, patience);
        return now.count - 1;
    }

    public int ask(int what, int v) {
        int was;
        if (what == 0 && isIn(v, 1, MOST_WEIGHT)) {
            was = now.weight;
            now.weight = v;
        } else if (what == 1 && isIn(v, now.done, MOST_WAY)) {
            was = now.way;
            now.way = v;
        } else if (what == 2 && isIn(v, 0, WHOLE_RULE)) {
            was = now.rule;
            now.rule = v;
        } else {
            was = refuse(WRONG);
        }
        return was;
    }

    public int tire(int person, int v) {
        if (!isPerson(person)) {
            return refuse(NOBODY);
        }
        if (!isIn(v, 0, MOST_TIRED)) {
            return refuse(WRONG);
        }
        int was = now.people[person].tired;
        now.people[person].tired = v;
        return was;
    }

    public int give(int person) {
        if (!isPersonOrNone(person)) {
            return refuseFar(NOBODY);
        }
        int was = now.bearer;
        now.bearer = person;
        return was;
    }

    public int personOf(int person, int what) {
        if (!isPerson(person)) {
            return refuse(BEYOND);
        }
        Person one = now.people[person];
        switch (what) {
            case 0:
                return one.kind;
            case 1:
                return one.a;
            case 2:
                return one.strength;
            case 3:
                return one.patience;
            case 4:
                return one.tired;
            case 5:
                return one.pace(now.weight);
            case 6:
                return one.toil(now.weight);
            case 7:
                return one.limit();
            default:
                return refuse(BEYOND);
        }
    }

    public int vow(int s) {
        int refusal = rowRefusal(s);
        if (refusal != FINE) {
            return refuse(refusal);
        }
        int items = reader.readItems(shelves[s], now);
        fault = reader.fault;
        if (fault != NONE) {
            return refuse(WRONG);
        }
        now.load(reader.draft);
        return items;
    }

    public int fault() {
        return fault;
    }

    // ---- WHAT COMES OF IT ----

    public int sighs(int what) {
        if (!isIn(what, 0, 1)) {
            return refuse(BEYOND);
        }
        int bits = 0;
        for (int p = 0; p < now.count; p++) {
            int missing = now.people[p].missingToSigh();
            if (what == 0 ? missing == 0 : isIn(missing, 1, HINT_TIRES)) {
                bits |= 1 << p;
            }
        }
        return bits;
    }

    public int ready(int person) {
        if (!isPerson(person)) {
            return refuseFar(NOBODY);
        }
        return now.people[person].missingToSigh();
    }

    public int ahead(int n, int what) {
        if (!isIn(what, 0, 1)) {
            return refuseFar(BEYOND);
        }
        if (!isIn(n, 0, MOST_STEPS)) {
            return refuseFar(WRONG);
        }
        trial.load(now);
        trial.takeSteps(n);
        return what == 0 ? trial.bearer : trial.done;
    }

    public int tired(int person, int n) {
        if (!isPerson(person)) {
            return refuse(NOBODY);
        }
        if (!isIn(n, 0, MOST_STEPS)) {
            return refuse(WRONG);
        }
        trial.load(now);
        trial.takeSteps(n);
        return trial.people[person].tired;
    }

    public int over() {
        trial.load(now);
        return trial.stepsToWay(MOST_OVER, NONE);
    }

    public int alone(int person, int what) {
        if (!isPerson(person)) {
            return refuseFar(NOBODY);
        }
        if (!isIn(what, 0, 1)) {
            return refuseFar(BEYOND);
        }
        Person one = now.people[person];
        if (what == 0) {
            return upward(now.way - now.done, one.pace(now.weight));
        }
        return one.stepsToLimit(now.weight);
    }

    public int relay(int k, int m, int i) {
        boolean legsMayBe = isIn(k, 1, MOST_LEGS);
        if (legsMayBe && !isIn(i, NONE, k - 1)) {
            return refuseFar(BEYOND);
        }
        if (!legsMayBe || !isIn(m, 1, MOST_LEG_STEPS)) {
            return refuseFar(WRONG);
        }
        relaySearch.seek(now, k, m);
        return i == NONE ? relaySearch.bestDone : relaySearch.bestOnLeg(i);
    }

    public int cases(int s, int n, int what) {
        int refusal = casesRefusal(s, n, isIn(what, 0, 1));
        if (refusal != FINE) {
            return refuseFar(refusal);
        }
        if (firstClash(shelves[s], n) != NONE) {
            return NONE;
        }
        return what == 0 ? sortsTold(shelves[s], n, 1) : WHOLE_RULE - sortsTold(shelves[s], n, 0);
    }

    public int clash(int s, int n) {
        int refusal = casesRefusal(s, n, true);
        if (refusal != FINE) {
            return refuseFar(refusal);
        }
        return firstClash(shelves[s], n);
    }

    public int borne(int s, int n) {
        int refusal = toldRefusal(s, n, n, true);
        if (refusal != FINE) {
            return refuse(refusal);
        }
        if (!isIn(n, 1, MOST_TOLD)) {
            return refuse(WRONG);
        }
        int bits = 0;
        for (int p = 0; p < now.count; p++) {
            if (goesAsTold(p, shelves[s], n)) {
                bits |= 1 << p;
            }
        }
        return goesAsTold(NONE, shelves[s], n) ? bits | 1 << now.count : bits;
    }

    public int without() {
        if (now.count == 0) {
            return refuse(BEYOND);
        }
        int best = 0;
        int soonest = MOST_OVER + 2;
        for (int p = 0; p < now.count; p++) {
            trial.load(now);
            if (trial.bearer == p) {
                trial.bearer = NONE;
            }
            int over = trial.stepsToWay(MOST_OVER, p);
            int when = over == NONE ? MOST_OVER + 1 : over;
            if (when < soonest) {
                soonest = when;
                best = p;
            }
        }
        return best;
    }

    public int weights(int t, int what) {
        if (!isIn(what, 0, 1)) {
            return refuseFar(BEYOND);
        }
        if (!isIn(t, 0, MOST_OVER)) {
            return refuseFar(WRONG);
        }
        int howMany = 0;
        int least = NONE;
        for (int weight = MOST_WEIGHT; weight >= 1; weight--) {
            if (overWithin(weight, t) == t) {
                howMany++;
                least = weight;
            }
        }
        return what == 0 ? howMany : least;
    }

    public int praise(int t) {
        if (!isIn(t, 0, MOST_OVER)) {
            return refuseFar(WRONG);
        }
        if (overWithin(now.weight, t) == NONE) {
            return NONE;
        }
        // A heavier stone may be there sooner (more TOIL, more sighs), so each WEIGHT is tried.
        for (int weight = now.weight + 1; weight <= MOST_WEIGHT; weight++) {
            if (overWithin(weight, t) == NONE) {
                return weight - now.weight;
            }
        }
        return NONE;
    }

    public int judge(int s, int n) {
        int refusal = talkRefusal(s, n, true);
        if (refusal != FINE) {
            return refuseFar(refusal);
        }
        return firstWrong(shelves[s], n);
    }

    public int behind(int s, int n, int what) {
        int refusal = talkRefusal(s, n, isIn(what, 0, 2));
        if (refusal == FINE && firstWrong(shelves[s], n) != NONE) {
            refusal = WRONG;
        }
        if (refusal != FINE) {
            return refuseFar(refusal);
        }
        trial.load(now);
        trial.hearTalk(shelves[s], n);
        if (what == 0) {
            return trial.bearer;
        }
        return what == 1 ? trial.done : trial.weight;
    }

    // ---- IN TRUTH ----

    public int done(int s, int n) {
        int refusal = talkRefusal(s, n, true);
        if (refusal == FINE && firstWrong(shelves[s], n) != NONE) {
            refusal = WRONG;
        }
        if (refusal != FINE) {
            return refuse(refusal);
        }
        now.hearTalk(shelves[s], n);
        return now.done;
    }

    public int say(int person, int sort) {
        if (!isPerson(person)) {
            return refuse(NOBODY);
        }
        if (!isIn(sort, 0, LIGHT)) {
            return refuse(WRONG);
        }
        now.hear(person, sort);
        return now.bearer == person ? 1 : 0;
    }

    public int steps(int n) {
        if (!isIn(n, 1, MOST_STEPS)) {
            return refuse(WRONG);
        }
        now.takeSteps(n);
        return now.done;
    }

    public int days(int n) {
        if (now.count == 0) {
            return refuse(BEYOND);
        }
        if (!isIn(n, 1, MOST_STEPS)) {
            return refuse(WRONG);
        }
        for (int day = 0; day < n; day++) {
            now.passDay();
        }
        return now.done;
    }

    public int seed(int v) {
        int was = now.seed;
        now.seed = v;
        return was;
    }

    // ---- MOVES, THE IMAGE, how many ----

    public int act(int person, int move, int x) {
        moves.forget();
        if (!isPerson(person) || !isIn(move, 0, MOVES - 1)) {
            return 0;
        }
        return moves.run(now.people[person], person, move, x);
    }

    public int trace(int i) {
        return moves.bodyKept(i);
    }

    public int image() {
        image.load(now);
        imageTaken = true;
        return image.count;
    }

    public int restore() {
        if (!imageTaken) {
            return refuse(WRONG);
        }
        now.load(image);
        for (int s = 0; s < MOST_SHELVES; s++) {
            if (shelves[s].isPerson() && !isPerson(shelves[s].person)) {
                shelves[s].holdNothing();
            }
        }
        return now.count;
    }

    public int status(int what) {
        switch (what) {
            case 0:
                return now.count;
            case 1:
                return now.weight;
            case 2:
                return now.way;
            case 3:
                return now.done;
            case 4:
                return now.bearer;
            case 5:
                return now.steps;
            case 6:
                return now.rule;
            case 7:
                return now.tiredTogether();
            case 8:
                return now.seed;
            case 9:
                return moves.ran;
            default:
                return isIn(what, 11, 17) ? refusals[what - 10] : NONE;
        }
    }

    // ---- what may be ----

    private static boolean isIn(int v, int least, int most) {
        return v >= least && v <= most;
    }

    private static boolean isShelf(int s) {
        return isIn(s, 0, MOST_SHELVES - 1);
    }

    private static boolean isKind(int kind) {
        return isIn(kind, 0, KINDS - 1);
    }

    private boolean isPerson(int person) {
        return isIn(person, 0, now.count - 1);
    }

    private boolean isPersonOrNone(int person) {
        return person == NONE || isPerson(person);
    }

    private static int kindAbove(int kind) {
        return isKind(kind) ? KIND_ABOVE[kind] : NONE;
    }

    private static boolean isUnder(int kind, int wanted) {
        int at = kind;
        for (int i = 0; i < KINDS && at != wanted; i++) {
            at = kindAbove(at);
        }
        return at == wanted;
    }

    /** a by b, the next whole number upward. */
    private static int upward(int a, int b) {
        return b < 1 ? a : (a + b - 1) / b;
    }

    // ---- REFUSALS ----

    private int refuse(int refusal) {
        if (isIn(-refusal, 1, 7)) {
            refusals[-refusal]++;
        }
        return refusal;
    }

    /** For calls whose plain answers may be below 0: -1 is told as -11, and so on. */
    private int refuseFar(int refusal) {
        return refuse(refusal) - 10;
    }

    private int rowRefusal(int s) {
        if (!isShelf(s)) {
            return NOBODY;
        }
        if (shelves[s].isPerson()) {
            return OTHER;
        }
        return shelves[s].isRow() ? FINE : NOTHING;
    }

    private int copyRefusal(int p, int q, int i, int j, int n) {
        if (!isShelf(p) || !isShelf(q)) {
            return NOBODY;
        }
        Shelf from = shelves[p];
        Shelf to = shelves[q];
        if (from.isPerson() || to.isPerson()) {
            return OTHER;
        }
        if (!from.isRow() || !to.isRow()) {
            return NOTHING;
        }
        if (from.sort != to.sort) {
            return OTHER;
        }
        if (n < 0) {
            return BELOW;
        }
        return from.hasStretch(i, n) && to.hasStretch(j, n) ? FINE : BEYOND;
    }

    /** Of a ROW of which the first n are told, for which so many elements must be there. */
    private int toldRefusal(int s, int n, long elements, boolean suchToTell) {
        int refusal = rowRefusal(s);
        if (refusal != FINE) {
            return refusal;
        }
        if (n < 0) {
            return BELOW;
        }
        return shelves[s].size < elements || !suchToTell ? BEYOND : FINE;
    }

    private int casesRefusal(int s, int n, boolean suchToTell) {
        int refusal = toldRefusal(s, n, 2L * n, suchToTell);
        if (refusal != FINE) {
            return refusal;
        }
        if (n > MOST_TOLD) {
            return WRONG;
        }
        for (int i = 0; i < n; i++) {
            boolean sortMayBe = isIn(shelves[s].intAt(2 * i), 0, RULE_SORTS - 1);
            if (!sortMayBe || !isIn(shelves[s].intAt(2 * i + 1), 0, 1)) {
                return WRONG;
            }
        }
        return FINE;
    }

    private int talkRefusal(int s, int n, boolean suchToTell) {
        int refusal = toldRefusal(s, n, n, suchToTell);
        if (refusal != FINE) {
            return refusal;
        }
        return n > MOST_TOLD ? WRONG : FINE;
    }

    // ---- what ROWS tell ----

    private static int firstClash(Shelf row, int n) {
        int counted = 0;
        int free = 0;
        for (int i = 0; i < n; i++) {
            int bit = 1 << (row.intAt(2 * i) & 7);
            if (row.intAt(2 * i + 1) == 1) {
                counted |= bit;
            } else {
                free |= bit;
            }
            if ((counted & free) != 0) {
                return i;
            }
        }
        return NONE;
    }

    /** The SORTS (bits) told with that, 1: counted, 0: not. */
    private static int sortsTold(Shelf row, int n, int told) {
        int bits = 0;
        for (int i = 0; i < n; i++) {
            if (row.intAt(2 * i + 1) == told) {
                bits |= 1 << (row.intAt(2 * i) & 7);
            }
        }
        return bits;
    }

    private int firstWrong(Shelf row, int n) {
        for (int i = 0; i < n; i++) {
            int told = row.intAt(i);
            if (told < 0 || !isPerson(told / 10) || told % 10 > LIGHT) {
                return i;
            }
        }
        return NONE;
    }

    private boolean goesAsTold(int bearer, Shelf row, int n) {
        trial.load(now);
        trial.bearer = bearer;
        for (int i = 0; i < n; i++) {
            trial.step(NONE);
            if (trial.done - now.done != row.intAt(i)) {
                return false;
            }
        }
        return true;
    }

    /** OVER by that WEIGHT, if it is t STEPS at most; NONE. */
    private int overWithin(int weight, int t) {
        trial.load(now);
        trial.weight = weight;
        return trial.stepsToWay(t, NONE);
    }

    /** A place that holds NOTHING, a ROW, or one of the PEOPLE; its elements are made once. */
    private static final class Shelf {
        private static final int HOLDS_NOTHING = 0;
        private static final int HOLDS_ROW = 1;
        private static final int HOLDS_PERSON = 2;

        int what;
        int sort;
        int size;
        int person;
        final long[] elements;

        Shelf() {
            what = HOLDS_NOTHING;
            sort = 0;
            size = 0;
            person = NONE;
            elements = new long[MOST_ELEMENTS];
        }

        boolean isRow() {
            return what == HOLDS_ROW;
        }

        boolean isPerson() {
            return what == HOLDS_PERSON;
        }

        void holdNothing() {
            what = HOLDS_NOTHING;
            size = 0;
            person = NONE;
        }

        void holdPerson(int number) {
            what = HOLDS_PERSON;
            size = 0;
            person = number;
        }

        void holdRow(int newSort, int newSize) {
            what = HOLDS_ROW;
            sort = newSort;
            size = Math.max(0, Math.min(MOST_ELEMENTS, newSize));
            person = NONE;
            for (int i = 0; i < size; i++) {
                elements[i] = 0L;
            }
        }

        boolean hasElement(int i) {
            return isRow() && i >= 0 && i < size && i < elements.length;
        }

        boolean hasStretch(int i, int n) {
            return i >= 0 && n >= 0 && (long) i + n <= size;
        }

        void put(int i, long v) {
            if (!hasElement(i)) {
                return;
            }
            switch (sort) {
                case 0:
                    elements[i] = (byte) v;
                    break;
                case 1:
                    elements[i] = (short) v;
                    break;
                case 2:
                    elements[i] = (int) v;
                    break;
                default:
                    elements[i] = v;
                    break;
            }
        }

        void takeFrom(Shelf from, int i, int j, int n) {
            if (from.hasStretch(i, n) && hasStretch(j, n)) {
                System.arraycopy(from.elements, i, elements, j, n);
            }
        }

        long longAt(int i) {
            return hasElement(i) ? elements[i] : 0L;
        }

        int intAt(int i) {
            return (int) longAt(i);
        }
    }

    /** One of the PEOPLE. */
    private static final class Person {
        int kind;
        int a;
        int strength;
        int patience;
        int tired;

        Person() {
            become(WALKER, 0, 1, 0);
        }

        void become(int newKind, int newA, int newStrength, int newPatience) {
            kind = newKind;
            a = newA;
            strength = newStrength;
            patience = newPatience;
            tired = 0;
        }

        void load(Person other) {
            kind = other.kind;
            a = other.a;
            strength = other.strength;
            patience = other.patience;
            tired = other.tired;
        }

        int pace(int weight) {
            int plain = weight < 1 ? 9 : Math.max(1, Math.min(9, 4 * strength / weight));
            boolean small = kind == CHILD || kind == CLERK;
            return small ? Math.max(1, plain - 1) : plain;
        }

        int toil(int weight) {
            int plain = upward(weight, strength);
            switch (kind) {
                case SINGER:
                case DEAF:
                    return upward(plain, 2);
                case BISHOP:
                    return plain + a;
                default:
                    return plain;
            }
        }

        int limit() {
            switch (kind) {
                case PIOUS:
                case BISHOP:
                    return 2 * patience;
                case CLERK:
                    return patience + a;
                default:
                    return patience;
            }
        }

        boolean isSighing() {
            return kind != DEAF && tired > limit();
        }

        /** How much more TIRED he must be till he SIGHS (0: he does); NONE: never. */
        int missingToSigh() {
            return kind == DEAF ? NONE : Math.max(0, limit() + 1 - tired);
        }

        void grow(int moreTired) {
            tired = Math.min(MOST_TIRED, tired + moreTired);
        }

        void rest(int lessTired) {
            tired = Math.max(0, tired - lessTired);
        }

        /** How many STEPS he bears it till he is above his LIMIT; NONE: never in 100. */
        int stepsToLimit(int weight) {
            int toil = toil(weight);
            for (int n = 0; n <= MOST_ALONE; n++) {
                if (Math.min(MOST_TIRED, tired + n * toil) > limit()) {
                    return n;
                }
            }
            return NONE;
        }
    }

    /** How things stand: the stone, the way, the rule, the people, the seed. */
    private static final class Vow {
        final Person[] people;
        int count;
        int weight;
        int way;
        int done;
        int bearer;
        int steps;
        int rule;
        int seed;

        Vow() {
            people = new Person[MOST_PEOPLE];
            for (int p = 0; p < MOST_PEOPLE; p++) {
                people[p] = new Person();
            }
            count = 0;
            weight = 20;
            way = 100;
            done = 0;
            bearer = NONE;
            steps = 0;
            rule = WHOLE_RULE;
            seed = 1;
        }

        void load(Vow other) {
            count = other.count;
            weight = other.weight;
            way = other.way;
            done = other.done;
            bearer = other.bearer;
            steps = other.steps;
            rule = other.rule;
            seed = other.seed;
            for (int p = 0; p < count; p++) {
                people[p].load(other.people[p]);
            }
        }

        void addPerson(int kind, int a, int strength, int patience) {
            if (count >= 0 && count < MOST_PEOPLE) {
                people[count].become(kind, a, strength, patience);
                count++;
            }
        }

        boolean isBorne() {
            return isIn(bearer, 0, count - 1);
        }

        boolean counts(int sort) {
            return isIn(sort, 0, RULE_SORTS - 1) && (rule >> sort & 1) == 1;
        }

        void takeSteps(int n) {
            for (int i = 0; i < n; i++) {
                step(NONE);
            }
        }

        /** A STEP; the sighs of the silent one are nothing (NONE: nobody is silent). */
        void step(int silent) {
            bearOrRest();
            if (counts(SIGH)) {
                comeToSigher(silent);
            }
            steps++;
        }

        void bearOrRest() {
            if (!isBorne()) {
                for (int p = 0; p < count; p++) {
                    people[p].rest(2);
                }
            } else if (done < way) {
                Person one = people[bearer];
                done = Math.min(way, done + one.pace(weight));
                for (int p = 0; p < count; p++) {
                    if (p == bearer) {
                        one.grow(one.toil(weight));
                    } else {
                        people[p].rest(1);
                    }
                }
            }
        }

        private void comeToSigher(int silent) {
            int last = NONE;
            for (int p = 0; p < count; p++) {
                if (p != bearer && p != silent && people[p].isSighing()) {
                    last = p;
                }
            }
            if (last != NONE) {
                bearer = last;
                people[last].rest(SIGH_RESTS);
            }
        }

        /** Behind how many STEPS, so many at most, DONE is WAY; NONE. */
        int stepsToWay(int most, int silent) {
            for (int n = 0; n <= most; n++) {
                if (done >= way) {
                    return n;
                }
                step(silent);
            }
            return NONE;
        }

        void hear(int who, int sort) {
            if (sort == LIGHT) {
                hearThatItIsLight(who);
                return;
            }
            if (counts(sort)) {
                bearer = who;
            }
            if (sort == PRAISE) {
                growHeavier();
            }
        }

        private void hearThatItIsLight(int who) {
            if (who != bearer) {
                bearer = who;
            } else if (isBorne() && weight <= people[bearer].strength) {
                bearer = NONE;
            } else {
                growHeavier();
            }
        }

        private void growHeavier() {
            weight = Math.min(MOST_WEIGHT, weight + 1);
        }

        void hearTalk(Shelf row, int n) {
            for (int i = 0; i < n; i++) {
                int told = row.intAt(i);
                hear(told / 10, told % 10);
                step(NONE);
            }
        }

        void passDay() {
            int who = draw(count);
            int sort = draw(DRAWN_SORTS);
            if (sort <= LIGHT) {
                hear(who, sort);
            }
            step(NONE);
        }

        private int draw(int below) {
            seed = seed * 1103515245 + 12345;
            return below < 1 ? 0 : (seed >>> 16) % below;
        }

        int tiredTogether() {
            int together = 0;
            for (int p = 0; p < count; p++) {
                together += people[p].tired;
            }
            return together;
        }

        /** A leg of m STEPS; whether nobody was too TIRED behind one of them. */
        boolean bearLeg(int who, int m) {
            bearer = who;
            for (int i = 0; i < m; i++) {
                bearOrRest();
                for (int p = 0; p < count; p++) {
                    if (people[p].tired > MOST_RELAY_TIRED) {
                        return false;
                    }
                }
            }
            return true;
        }
    }

    /** Looks through who may bear it on which leg, first rows first. */
    private static final class RelaySearch {
        /** How things stand ahead of each leg, and behind the last. */
        private final Vow[] standings;
        private final int[] who;
        private final int[] bestWho;
        int bestDone;

        RelaySearch() {
            standings = new Vow[MOST_LEGS + 1];
            for (int leg = 0; leg <= MOST_LEGS; leg++) {
                standings[leg] = new Vow();
            }
            who = new int[MOST_LEGS];
            bestWho = new int[MOST_LEGS];
            bestDone = NONE;
        }

        void seek(Vow start, int legs, int m) {
            standings[0].load(start);
            bestDone = NONE;
            tryLeg(this, 0, Math.min(legs, MOST_LEGS), m);
        }

        int bestOnLeg(int i) {
            return bestDone != NONE && isIn(i, 0, MOST_LEGS - 1) ? bestWho[i] : NONE;
        }

        /** The depth is the leg: it is never above 4. */
        private static void tryLeg(RelaySearch search, int leg, int legs, int m) {
            if (leg >= legs || leg < 0 || leg >= MOST_LEGS) {
                search.keepIfBetter(leg);
                return;
            }
            Vow from = search.standings[leg];
            Vow to = search.standings[leg + 1];
            // None can come farther than WAY, and of several the first counts.
            for (int p = 0; p < from.count && search.bestDone < from.way; p++) {
                search.who[leg] = p;
                to.load(from);
                if (to.bearLeg(p, m)) {
                    tryLeg(search, leg + 1, legs, m);
                }
            }
        }

        private void keepIfBetter(int legs) {
            if (!isIn(legs, 0, MOST_LEGS) || standings[legs].done <= bestDone) {
                return;
            }
            bestDone = standings[legs].done;
            for (int leg = 0; leg < legs; leg++) {
                bestWho[leg] = who[leg];
            }
        }
    }

    /** Reads a VOW from a ROW of letters and tells it over a draft, up to the first FAULT. */
    private static final class VowReader {
        private static final int WORD_PERSON = 0;
        private static final int WORD_WEIGHT = 1;
        private static final int WORD_WAY = 2;
        private static final int WORD_BEARS = 3;
        private static final int WORD_LIES = 4;
        private static final int WORD_COUNTS = 5;
        private static final int WORD_FREE = 6;
        private static final int WORDS = 7;
        private static final int LONGEST_WORD = 6;
        private static final int MOST_VOW_WAY = 99;
        /** What stands behind the last element; no letter of a VOW is below 0. */
        private static final int END = -1;

        private final int[] letters;
        private int size;
        final Vow draft;
        private int place;
        int fault;

        VowReader() {
            letters = new int[MOST_ELEMENTS];
            size = 0;
            draft = new Vow();
            place = 0;
            fault = NONE;
        }

        /** How many ITEMS; the FAULT is NONE if all of them may stand. */
        int readItems(Shelf text, Vow start) {
            takeLetters(text);
            draft.load(start);
            place = 0;
            fault = NONE;
            readItem();
            int items = 1;
            // An ITEM has letters, so there are fewer ITEMS than elements.
            while (fault == NONE && place < size && items < MOST_ELEMENTS) {
                expect(';');
                if (fault == NONE) {
                    readItem();
                    items++;
                }
            }
            return items;
        }

        private void takeLetters(Shelf text) {
            size = Math.min(text.size, MOST_ELEMENTS);
            for (int i = 0; i < size; i++) {
                letters[i] = text.intAt(i);
            }
        }

        private void readItem() {
            int start = place;
            int word = readWord();
            if (fault != NONE) {
                return;
            }
            switch (word) {
                case WORD_PERSON:
                    readPerson(start);
                    break;
                case WORD_WEIGHT:
                    tellWeight(readNumber(1, MOST_WEIGHT));
                    break;
                case WORD_WAY:
                    tellWay(readNumber(draft.done, MOST_VOW_WAY));
                    break;
                case WORD_BEARS:
                    tellBearer(readNumber(0, draft.count - 1));
                    break;
                case WORD_LIES:
                    tellBearer(NONE);
                    break;
                case WORD_COUNTS:
                    tellSort(readNumber(0, RULE_SORTS - 1), true);
                    break;
                default:
                    tellSort(readNumber(0, RULE_SORTS - 1), false);
                    break;
            }
        }

        private void readPerson(int start) {
            if (draft.count >= MOST_PEOPLE) {
                fault = start;
                return;
            }
            int kind = readNumber(0, KINDS - 1);
            int a = readNumber(0, MOST_A);
            int strength = readNumber(1, MOST_STRENGTH);
            int patience = readNumber(0, MOST_PATIENCE);
            if (fault == NONE) {
                draft.addPerson(kind, a, strength, patience);
            }
        }

        private void tellWeight(int weight) {
            if (fault == NONE) {
                draft.weight = weight;
            }
        }

        private void tellWay(int way) {
            if (fault == NONE) {
                draft.way = way;
            }
        }

        private void tellBearer(int bearer) {
            if (fault == NONE) {
                draft.bearer = bearer;
            }
        }

        private void tellSort(int sort, boolean counts) {
            if (fault == NONE) {
                int bit = 1 << (sort & 7);
                draft.rule = counts ? draft.rule | bit : draft.rule & ~bit;
            }
        }

        /** No word begins another one, so the first that is whole is the one. */
        private int readWord() {
            int left = (1 << WORDS) - 1;
            for (int i = 0; i < LONGEST_WORD; i++) {
                int letter = letterHere();
                int fitting = 0;
                for (int word = 0; word < WORDS; word++) {
                    String whole = lettersOf(word);
                    if ((left >> word & 1) == 1 && i < whole.length()
                            && whole.charAt(i) == letter) {
                        fitting |= 1 << word;
                        if (i == whole.length() - 1) {
                            place++;
                            return word;
                        }
                    }
                }
                if (fitting == 0) {
                    break;
                }
                left = fitting;
                place++;
            }
            fault = place;
            return NONE;
        }

        private static String lettersOf(int word) {
            switch (word) {
                case WORD_PERSON:
                    return "person";
                case WORD_WEIGHT:
                    return "weight";
                case WORD_WAY:
                    return "way";
                case WORD_BEARS:
                    return "bears";
                case WORD_LIES:
                    return "lies";
                case WORD_COUNTS:
                    return "counts";
                case WORD_FREE:
                    return "free";
                default:
                    return "";
            }
        }

        /** The blank ahead of a NUMBER and the NUMBER; nothing is read behind a FAULT. */
        private int readNumber(int least, int most) {
            expect(' ');
            int first = place;
            if (fault != NONE || !isDigit(letterHere())) {
                fault = fault != NONE ? fault : place;
                return NONE;
            }
            int number = letterHere() - '0';
            place++;
            if (isDigit(letterHere())) {
                number = 10 * number + letterHere() - '0';
                place++;
            }
            if (!isIn(number, least, most)) {
                fault = first;
                return NONE;
            }
            return number;
        }

        private void expect(int letter) {
            if (fault != NONE) {
                return;
            }
            if (letterHere() == letter) {
                place++;
            } else {
                fault = place;
            }
        }

        private static boolean isDigit(int letter) {
            return letter >= '0' && letter <= '9';
        }

        private int letterHere() {
            boolean there = place >= 0 && place < size && place < letters.length;
            return there ? letters[place] : END;
        }
    }

    /** Runs MOVES and keeps THE TRACE of the latest. */
    private static final class Moves {
        private final int[] kept;
        int ran;
        private int kind;
        private int m;
        private int k;

        Moves() {
            kept = new int[MOST_TRACE];
            ran = 0;
            kind = WALKER;
            m = 0;
            k = 0;
        }

        void forget() {
            ran = 0;
        }

        int bodyKept(int i) {
            return isIn(i, 0, Math.min(ran, MOST_TRACE) - 1) ? kept[i] : NONE;
        }

        int run(Person one, int number, int move, int x) {
            kind = one.kind;
            m = number;
            k = one.a;
            return runFrom(this, kind, move, x, 0);
        }

        /** Runs the body of a KIND, or of the next KIND above that has one. */
        private static int runFrom(Moves one, int from, int move, int x, int depth) {
            int at = from;
            for (int i = 0; i < KINDS && bodyAt(at, move) == 0; i++) {
                at = kindAbove(at);
            }
            int body = bodyAt(at, move);
            if (body == 0 || depth >= MOST_OPEN_BODIES) {
                return 0;
            }
            one.begin(body);
            int above = kindAbove(at);
            int next = depth + 1;
            switch (body) {
                case 10:
                    return x + one.m;
                case 11:
                    return runFrom(one, one.kind, WALKS, x, next) * 2;
                case 12:
                    int first = runFrom(one, one.kind, BEARS, x, next);
                    return first ^ runFrom(one, one.kind, WALKS, x - one.k, next);
                case 20:
                    return runFrom(one, above, WALKS, x, next) + one.k;
                case 30:
                    return runFrom(one, above, BEARS, x, next) * 3;
                case 40:
                    return runFrom(one, above, WALKS, x + 1, next);
                case 50:
                    return -runFrom(one, above, SPEAKS, x, next);
                case 51:
                    return runFrom(one, above, WALKS, x, next) - one.m;
                case 60:
                    return runFrom(one, above, SPEAKS, x, next) ^ 5;
                case 70:
                    return runFrom(one, above, WALKS, x, next) * 2;
                default:
                    return runFrom(one, above, BEARS, x - one.k, next);
            }
        }

        private static int bodyAt(int kind, int move) {
            return isKind(kind) && isIn(move, 0, MOVES - 1) ? BODIES[kind * MOVES + move] : 0;
        }

        private void begin(int body) {
            if (isIn(ran, 0, MOST_TRACE - 1)) {
                kept[ran] = body;
            }
            ran++;
        }
    }
}
