import com.sun.management.ThreadMXBean;
import java.lang.management.ManagementFactory;

/** All calls of one run live in one room: 512 of the dearest calls must not fill it. */
public final class RoomForObjects {
    private static final Checks C = new Checks();
    private static final ThreadMXBean THREADS = (ThreadMXBean) ManagementFactory.getThreadMXBean();
    /** 7.3 million fields and elements, of eight bytes at most. */
    private static final long MOST_BYTES = 7300000L * 8;

    private interface Call {
        long on(WhoComplainsCarries x);
    }

    public static void main(String[] args) {
        filled("relay", x -> x.relay(4, 20, -1));
        filled("weights", x -> x.weights(200, 0));
        filled("praise", x -> x.praise(200));
        filled("without", x -> x.without());
        filled("borne", x -> x.borne(0, 40));
        filled("behind", x -> x.behind(0, 40, 1));
        filled("vow", x -> x.vow(1));
        filled("row", x -> x.row(2, 3, 160));
        filled("days", x -> x.days(60));
        filled("image", x -> x.image() + x.restore());
        filled("act", x -> x.act(6, 2, 5));
        C.end("RoomForObjects");
    }

    private static void filled(String name, Call call) {
        long before = bytes();
        WhoComplainsCarries x = new WhoComplainsCarries();
        for (int p = 0; p < 7; p++) {
            x.person(p, 3, 20 + p, 40);
        }
        x.ask(1, 999);
        x.row(0, 3, 160);
        String text = "lies;lies;lies;way 5x";
        x.row(1, 0, text.length());
        for (int i = 0; i < text.length(); i++) {
            x.set(1, i, text.charAt(i));
        }
        for (int i = 0; i < 400; i++) {
            call.on(x);
        }
        C.due("the room holds 400 of " + name, bytes() - before <= MOST_BYTES ? 1 : 0, 1);
    }

    private static long bytes() {
        return THREADS.getThreadAllocatedBytes(Thread.currentThread().getId());
    }
}
