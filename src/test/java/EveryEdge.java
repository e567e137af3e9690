import java.lang.reflect.Method;
import java.lang.reflect.Modifier;
import java.util.ArrayList;
import java.util.Arrays;
import java.util.Comparator;
import java.util.HashMap;
import java.util.List;
import java.util.Map;

/**
 * Each call of the face with every number near an edge in each of its places, as things stand in
 * some scenes; beside PlainModel. So no call throws, and each answers as the plain telling does.
 */
public final class EveryEdge {
    private static final Checks C = new Checks();
    private static final int MIN = Integer.MIN_VALUE;
    private static final int MAX = Integer.MAX_VALUE;
    private static final int MOST_CALLS = 512;
    private static final int CALLS_TO_LOOK = 60;

    /** For calls with one, two, three, four, five places. */
    private static final int[][] EDGES = {{},
        {MIN, MIN + 1, -1000, -11, -2, -1, 0, 1, 2, 3, 4, 5, 6, 7, 8, 9, 10, 11, 12, 17, 18, 19, 20,
            21, 31, 32, 39, 40, 41, 59, 60, 61, 80, 81, 98, 99, 100, 101, 159, 160, 161, 199, 200,
            201, 998, 999, 1000, 65536, 1 << 30, MAX - 1, MAX},
        {MIN, -2, -1, 0, 1, 2, 3, 4, 5, 6, 7, 8, 9, 19, 20, 31, 32, 39, 40, 41, 60, 61, 80, 81, 99,
            100, 159, 160, 161, 200, 201, 999, 1000, 1 << 30, MAX},
        {MIN, -1, 0, 1, 2, 3, 4, 5, 7, 8, 20, 21, 40, 41, 80, 81, 160, 161, 1 << 30, MAX},
        {MIN, -1, 0, 1, 6, 7, 9, 10, 40, 41, MAX},
        {-1, 0, 1, 3, 4, 5, 8, MAX}};

    private final List<Object[]> scene = new ArrayList<>();
    private final String name;
    private final Map<String, Method> plain = new HashMap<>();
    private WhoComplainsCarries x;
    private PlainModel y;
    private int calls = MOST_CALLS;

    private EveryEdge(String name) {
        this.name = name;
        for (Method method : PlainModel.class.getDeclaredMethods()) {
            plain.put(method.getName() + method.getParameterCount(), method);
        }
    }

    public static void main(String[] args) throws ReflectiveOperationException {
        nobody().everyCall();
        three().everyCall();
        atTheEnd().everyCall();
        seven().everyCall();
        C.end("EveryEdge");
    }

    // ---- scenes ----

    private EveryEdge with(String call, Object... args) {
        Object[] all = new Object[args.length + 1];
        all[0] = call;
        System.arraycopy(args, 0, all, 1, args.length);
        scene.add(all);
        return this;
    }

    private EveryEdge withRow(int s, int sort, long... elements) {
        with("row", s, sort, elements.length);
        for (int i = 0; i < elements.length; i++) {
            with("set", s, i, elements[i]);
        }
        return this;
    }

    private static EveryEdge nobody() {
        return new EveryEdge("nobody").withRow(0, 2, 0, 1, 4, 0).with("row", 4, 3, 160);
    }

    private static EveryEdge three() {
        return new EveryEdge("three").with("person", 3, 2, 12, 6).with("person", 6, 5, 11, 8)
            .with("person", 2, 4, 9, 2).with("tire", 0, 30).with("give", 2).with("image")
            .withRow(0, 2, 0, 1, 4, 0).withRow(1, 1, 15, 1, 22, 6).with("row", 4, 3, 160)
            .withRow(5, 2, 4, 6).with("show", 2, 1).with("row", 7, 0, 0).with("act", 1, 2, 3);
    }

    private static EveryEdge atTheEnd() {
        return new EveryEdge("at the end").with("person", 0, 0, 40, 3).with("person", 5, 9, 1, 0)
            .with("ask", 1, 7).with("give", 0).with("tire", 1, 99).with("steps", 4)
            .withRow(0, 2, 3, 1, 3, 0).with("row", 4, 3, 160).with("row", 5, 2, 3)
            .with("show", 2, 0).with("show", 3, 1).with("seed", -7);
    }

    private static EveryEdge seven() {
        EveryEdge all = new EveryEdge("seven").with("ask", 0, 44).with("ask", 1, 300);
        for (int p = 0; p < 7; p++) {
            all.with("person", p, 9 - p, 40 - 5 * p, 5 * p).with("tire", p, 7 * p);
        }
        return all.with("ask", 2, 11).withRow(0, 2, 0, 11, 25, 63).with("row", 4, 3, 160)
            .with("show", 6, 6).with("row", 1, 0, 81).with("image");
    }

    // ---- calls ----

    private void everyCall() throws ReflectiveOperationException {
        Method[] face = WhoComplainsCarries.class.getDeclaredMethods();
        Arrays.sort(face, Comparator.comparing(Method::getName));
        for (Method method : face) {
            if (Modifier.isPublic(method.getModifiers())) {
                fill(method, new Object[method.getParameterCount()], 0);
            }
        }
        look();
    }

    private void fill(Method method, Object[] args, int place) throws ReflectiveOperationException {
        if (place == args.length) {
            beside(method, args);
            return;
        }
        boolean wide = method.getParameterTypes()[place] == long.class;
        for (int edge : EDGES[args.length]) {
            args[place] = wide ? (Object) (edge * 65537L) : (Object) edge;
            fill(method, args, place + 1);
        }
    }

    private void beside(Method method, Object[] args) throws ReflectiveOperationException {
        if (calls + CALLS_TO_LOOK >= MOST_CALLS) {
            look();
            begin();
        }
        both(method, args);
    }

    private void both(Method method, Object... args) throws ReflectiveOperationException {
        calls++;
        long got = ((Number) method.invoke(x, args)).longValue();
        Method told = plain.get(method.getName() + args.length);
        long want = ((Number) told.invoke(y, args)).longValue();
        if (got != want) {
            C.due(name + ": " + method.getName() + Arrays.toString(args), got, want);
        } else {
            C.due("", got, want);
        }
    }

    private void begin() throws ReflectiveOperationException {
        x = new WhoComplainsCarries();
        y = new PlainModel();
        calls = 0;
        for (Object[] call : scene) {
            Object[] args = Arrays.copyOfRange(call, 1, call.length);
            both(faceOf((String) call[0]), args);
        }
    }

    private static Method faceOf(String call) {
        for (Method method : WhoComplainsCarries.class.getDeclaredMethods()) {
            boolean open = Modifier.isPublic(method.getModifiers());
            if (open && method.getName().equals(call)) {
                return method;
            }
        }
        throw new IllegalArgumentException("no such call: " + call);
    }

    /** What stands behind some calls, beside what stands in the plain telling. */
    private void look() throws ReflectiveOperationException {
        if (x == null) {
            return;
        }
        for (int what = 0; what < 18; what++) {
            both(faceOf("status"), what);
        }
        for (int s = 0; s < 8; s++) {
            both(faceOf("holds"), s);
            both(faceOf("element"), s, 0);
        }
        for (int p = 0; p < 7; p++) {
            both(faceOf("personOf"), p, 4);
        }
        both(faceOf("fault"));
        both(faceOf("trace"), 0);
        calls = MOST_CALLS;
    }
}
