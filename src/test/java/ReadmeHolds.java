import java.io.IOException;
import java.lang.reflect.Array;
import java.lang.reflect.Field;
import java.lang.reflect.Method;
import java.lang.reflect.Modifier;
import java.nio.file.Files;
import java.nio.file.Path;
import java.util.Arrays;
import java.util.Collections;
import java.util.IdentityHashMap;
import java.util.Map;
import java.util.Set;
import java.util.TreeMap;
import java.util.TreeSet;
import java.util.regex.Matcher;
import java.util.regex.Pattern;
import java.util.stream.Stream;

/** What README.md says of calls, REFUSALS, objects and tests is true of the class and the tests. */
public final class ReadmeHolds {
    private static final Checks C = new Checks();
    private static final String NEAR = "Refusing by -1 to -7:";
    private static final String FAR = "Refusing by -11 to -16,";
    private static final String NEVER = "Never refusing:";

    public static void main(String[] args) throws IOException, ReflectiveOperationException {
        String readme = Files.readString(Path.of("README.md"));
        String document = Files.readString(Path.of("../shared/DOC.md"));
        calls(readme);
        whoRefuses(readme, document);
        whyRefused(readme);
        objects(readme);
        tests(readme);
        C.end("ReadmeHolds");
    }

    private static Method faceOf(String call) {
        for (Method method : WhoComplainsCarries.class.getDeclaredMethods()) {
            if (Modifier.isPublic(method.getModifiers()) && method.getName().equals(call)) {
                return method;
            }
        }
        throw new IllegalArgumentException("README.md names no call of the face: " + call);
    }

    private static long ask(WhoComplainsCarries x, Method method, long... numbers)
            throws ReflectiveOperationException {
        Class<?>[] types = method.getParameterTypes();
        Object[] args = new Object[types.length];
        for (int i = 0; i < args.length; i++) {
            args[i] = types[i] == long.class ? (Object) numbers[i] : (Object) (int) numbers[i];
        }
        return ((Number) method.invoke(x, args)).longValue();
    }

    /** Each 'x.call(..); // answer', in the order in which they stand, on one object. */
    private static void calls(String readme) throws ReflectiveOperationException {
        Matcher m = Pattern.compile("(?m)^x\\.(\\w+)\\((.*)\\);(.*)$").matcher(readme);
        WhoComplainsCarries x = new WhoComplainsCarries();
        int made = 0;
        while (m.find()) {
            String[] told = m.group(2).isEmpty() ? new String[0] : m.group(2).split(", ");
            long[] numbers = new long[told.length];
            for (int i = 0; i < told.length; i++) {
                boolean letter = told[i].startsWith("'");
                numbers[i] = letter ? told[i].charAt(1) : Long.parseLong(told[i]);
            }
            Matcher answer = Pattern.compile("^ +// (-?\\d+)(: .*)?$").matcher(m.group(3));
            C.due(m.group() + " tells its answer", answer.find() ? 1 : 0, 1);
            long got = ask(x, faceOf(m.group(1)), numbers);
            C.due(m.group(), got, Long.parseLong(answer.group(1)));
            made++;
        }
        C.due("calls are shown", made > 20 ? 1 : 0, 1);
    }

    /** The calls that a line of the list names. */
    private static Set<String> listed(String readme, String line) {
        int from = readme.indexOf("- " + line);
        C.due("'" + line + "' stands there", from >= 0 ? 1 : 0, 1);
        int end = readme.indexOf(".\n", from);
        Set<String> names = new TreeSet<>();
        Matcher m = Pattern.compile("`(\\w+)`").matcher(readme.substring(from, end));
        while (m.find()) {
            names.add(m.group(1));
        }
        return names;
    }

    /** By the REFUSALS that stand in each promise, and by a call with the least numbers of all. */
    private static void whoRefuses(String readme, String document)
            throws ReflectiveOperationException {
        Map<String, Set<String>> due = new TreeMap<>();
        for (String line : new String[] {NEAR, FAR, NEVER}) {
            due.put(line, new TreeSet<>());
        }
        Matcher m = Pattern.compile("## Promise \\d+: ([a-z]\\w*)\n\n`[^`]*`: (.*)").matcher(document);
        while (m.find()) {
            String promise = m.group(2);
            boolean far = Pattern.compile("-1[1-7]").matcher(promise).find();
            boolean near = Pattern.compile("-[1-7](?!\\d)").matcher(promise).find();
            boolean counts = m.group(1).equals("status");
            due.get(counts || !far && !near ? NEVER : far ? FAR : NEAR).add(m.group(1));
        }
        int named = 0;
        for (Map.Entry<String, Set<String>> line : due.entrySet()) {
            Set<String> names = listed(readme, line.getKey());
            C.due(line + " is " + names, names.equals(line.getValue()) ? 1 : 0, 1);
            named += names.size();
            for (String name : names) {
                refuses(line.getKey(), faceOf(name));
            }
        }
        C.due("calls named", named, 39);
    }

    private static void refuses(String line, Method method) throws ReflectiveOperationException {
        WhoComplainsCarries x = new WhoComplainsCarries();
        long[] least = new long[method.getParameterCount()];
        Arrays.fill(least, Integer.MIN_VALUE);
        long answer = ask(x, method, least);
        int counted = 0;
        for (int what = 11; what <= 17; what++) {
            counted += x.status(what);
        }
        boolean near = answer >= -7 && answer <= -1;
        boolean far = answer >= -16 && answer <= -11;
        boolean fits = line.equals(NEAR) ? near : line.equals(FAR) ? far : counted == 0;
        C.due(method.getName() + " answers " + answer + " by '" + line + "'", fits ? 1 : 0, 1);
        C.due(method.getName() + " is counted", counted, line.equals(NEVER) ? 0 : 1);
    }

    /** Each row of the table, shown by a call. */
    private static void whyRefused(String readme) {
        Stone x = new Stone();
        x.show(0, 0);
        C.due("-1 is counted", x.status(11), 1);
        x.person(0, 0, 1, 1);
        x.show(0, 0);
        x.set(0, 0, 1);
        C.due("-2 is counted", x.status(12), 1);
        x.vow(1);
        C.due("-3 is counted", x.status(13), 1);
        x.row(1, 0, -1);
        C.due("-4 is counted", x.status(14), 1);
        x.sighs(2);
        C.due("-5 is counted", x.status(15), 1);
        x.restore();
        C.due("-6 is counted", x.status(16), 1);
        x.row(1, 0, 161);
        C.due("-7 is counted", x.status(17), 1);
        String[] names = {"NOBODY", "OTHER", "NOTHING", "BELOW", "BEYOND", "WRONG", "ROOM"};
        for (int i = 0; i < names.length; i++) {
            String row = "| -" + (i + 1) + " " + names[i] + " | `status(" + (11 + i) + ")` |";
            C.due(row + " stands there", readme.contains(row) ? 1 : 0, 1);
        }
    }

    /** How many objects there are, and how many fields and elements, is "some" of what is told. */
    private static void objects(String readme) throws ReflectiveOperationException {
        Matcher m = Pattern.compile("some (\\d+) objects and arrays, ([\\d,]+)\\s+fields and")
            .matcher(readme);
        C.due("how many objects is told", m.find() ? 1 : 0, 1);
        Set<Object> found = Collections.newSetFromMap(new IdentityHashMap<>());
        int fields = count(new WhoComplainsCarries(), found);
        int toldFields = Integer.parseInt(m.group(2).replace(",", ""));
        some("objects and arrays", found.size(), Integer.parseInt(m.group(1)));
        some("fields and elements", fields, toldFields);
    }

    private static void some(String what, int got, int told) {
        boolean near = Math.abs(got - told) * 10 <= told;
        C.due(what + ": " + got + " are some " + told, near ? 1 : 0, 1);
    }

    private static int count(Object one, Set<Object> found) throws ReflectiveOperationException {
        if (one == null || !found.add(one)) {
            return 0;
        }
        int fields = 0;
        if (one.getClass().isArray()) {
            fields = Array.getLength(one);
            for (int i = 0; i < Array.getLength(one); i++) {
                fields += isPart(one.getClass().getComponentType())
                    ? count(Array.get(one, i), found) : 0;
            }
            return fields;
        }
        for (Field field : one.getClass().getDeclaredFields()) {
            if (!Modifier.isStatic(field.getModifiers())) {
                field.setAccessible(true);
                fields += 1 + (isPart(field.getType()) ? count(field.get(one), found) : 0);
            }
        }
        return fields;
    }

    private static boolean isPart(Class<?> type) {
        return !type.isPrimitive();
    }

    /** Each test is named, and each name that looks like a test's is one; so is the one command. */
    private static void tests(String readme) throws IOException {
        String told = readme.substring(readme.indexOf("## How to run its tests"));
        Set<String> named = new TreeSet<>();
        Matcher m = Pattern.compile("`([A-Z][a-z]+[A-Za-z]*)`").matcher(told);
        while (m.find()) {
            named.add(m.group(1));
        }
        Set<String> there = new TreeSet<>();
        for (String place : new String[] {"src/test/java", "src/test/support"}) {
            C.due(place + " is told", told.contains("`" + place + "`") ? 1 : 0, 1);
            try (Stream<Path> files = Files.list(Path.of(place))) {
                files.map(f -> f.getFileName().toString().replace(".java", "")).forEach(there::add);
            }
        }
        C.due("tests told " + named + " are " + there, named.equals(there) ? 1 : 0, 1);
        C.due("the one command is told", told.contains("```sh\n.ci/run\n```") ? 1 : 0, 1);
        C.due("it can be run", Files.isExecutable(Path.of(".ci/run")) ? 1 : 0, 1);
    }
}
