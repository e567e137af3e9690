import java.util.ArrayList;
import java.util.List;

/**
 * An object in which much stands, and all that can be seen of it; so a call can be shown to change
 * nothing but what it may.
 */
final class Scene {
    interface Call {
        long on(Stone x);
    }

    static final int TEXT = 0;
    static final int TALK = 1;
    static final int CLERK_SHOWN = 2;
    static final int NOTHING = 3;
    static final int LONGS = 4;
    static final int CASES = 5;
    static final int SINGER_SHOWN = 6;
    static final int NO_ELEMENTS = 7;

    final Stone x = new Stone();
    private long[] imaged = new long[0];
    private boolean imageTaken = false;

    private Scene() {
    }

    /** Nobody, no IMAGE; but SHELVES that hold ROWS. */
    static Scene empty() {
        Scene scene = new Scene();
        scene.putRows();
        return scene;
    }

    /** Four of the PEOPLE, three in THE IMAGE; a FAULT, a TRACE, SHELVES of all sorts. */
    static Scene four() {
        Scene scene = new Scene();
        Stone x = scene.x;
        x.person(Stone.BISHOP, 2, 12, 6);
        x.person(Stone.CLERK, 5, 11, 8);
        x.person(Stone.DEAF, 0, 9, 3);
        x.ask(0, 30);
        x.ask(1, 500);
        x.ask(2, 29);
        x.seed(77);
        x.tire(0, 9);
        x.tire(2, 40);
        x.give(1);
        x.steps(2);
        scene.takeImage();
        x.person(Stone.SINGER, 1, 14, 10);
        x.tire(3, 5);
        x.give(3);
        x.ask(0, 33);
        x.ask(1, 450);
        x.ask(2, 27);
        x.steps(3);
        x.seed(-5);
        x.act(1, 2, 6);
        scene.putRows();
        x.show(CLERK_SHOWN, 1);
        x.show(SINGER_SHOWN, 3);
        x.vow(NO_ELEMENTS);
        return scene;
    }

    /** Seven of the PEOPLE: all places are taken. */
    static Scene full() {
        Scene scene = four();
        scene.x.person(Stone.WALKER, 9, 40, 0);
        scene.x.person(Stone.PIOUS, 0, 1, 40);
        scene.x.person(Stone.CHILD, 3, 20, 20);
        scene.x.tire(5, 99);
        return scene;
    }

    private void putRows() {
        x.text(TEXT, "lies");
        x.row(TALK, 1, 4);
        int[] talk = {31, 12, 20, 5};
        for (int i = 0; i < talk.length; i++) {
            x.set(TALK, i, talk[i]);
        }
        x.row(LONGS, 3, 160);
        x.set(LONGS, 159, (5L << 40) + 3);
        x.numbers(CASES, 0, 1, 4, 0);
        x.row(NO_ELEMENTS, 0, 0);
    }

    private void takeImage() {
        x.image();
        imaged = imageable();
        imageTaken = true;
    }

    /** What THE IMAGE has. */
    long[] imageable() {
        List<Long> all = new ArrayList<>();
        for (int what = 0; what < 9; what++) {
            all.add((long) x.status(what));
        }
        for (int p = 0; p < all.get(0); p++) {
            for (int what = 0; what < 5; what++) {
                all.add((long) x.personOf(p, what));
            }
        }
        return all.stream().mapToLong(v -> v).toArray();
    }

    /** What can be seen else: the FAULT, THE TRACE, SHELVES; but REFUSALS. */
    private long[] around() {
        List<Long> all = new ArrayList<>();
        all.add((long) x.fault());
        int ran = x.status(9);
        all.add((long) ran);
        for (int i = 0; i <= ran; i++) {
            all.add((long) x.trace(i));
        }
        for (int s = 0; s < 8; s++) {
            int holds = x.holds(s);
            all.add((long) holds);
            for (int i = 0; i < 6 && holds >= 100; i++) {
                all.add(x.element(s, i < 5 ? i : 159));
            }
        }
        return all.stream().mapToLong(v -> v).toArray();
    }

    private long[] refusals() {
        long[] counts = new long[7];
        for (int i = 0; i < counts.length; i++) {
            counts[i] = x.status(11 + i);
        }
        return counts;
    }

    /** The call answers the REFUSAL, which is counted, and nothing else changes. */
    void refuses(Checks c, String call, Call made, long answer) {
        long[] counts = refusals();
        int refusal = (int) (answer < -10 ? answer + 10 : answer);
        counts[-refusal - 1]++;
        changesNothing(c, call, made, answer, counts);
    }

    /** The call answers, and nothing changes at all. */
    void tells(Checks c, String call, Call made, long answer) {
        changesNothing(c, call, made, answer, refusals());
    }

    private void changesNothing(Checks c, String call, Call made, long answer, long[] counts) {
        long[] vow = imageable();
        long[] rest = around();
        c.due(call, made.on(x), answer);
        alike(c, call + ": REFUSALS", refusals(), counts);
        alike(c, call + ": what stands", imageable(), vow);
        alike(c, call + ": what stands else", around(), rest);
        if (imageTaken) {
            x.restore();
            alike(c, call + ": THE IMAGE", imageable(), imaged);
        } else {
            c.due(call + ": no IMAGE", x.restore(), -6);
        }
    }

    static void alike(Checks c, String what, long[] got, long[] due) {
        c.due(what + ", how many", got.length, due.length);
        for (int i = 0; i < Math.min(got.length, due.length); i++) {
            c.due(what + " [" + i + "]", got[i], due[i]);
        }
    }
}
