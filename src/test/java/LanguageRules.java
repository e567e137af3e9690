import java.io.IOException;
import java.lang.reflect.Constructor;
import java.lang.reflect.Field;
import java.lang.reflect.Method;
import java.lang.reflect.Modifier;
import java.nio.file.Files;
import java.nio.file.Path;
import java.util.ArrayList;
import java.util.List;
import java.util.Set;
import java.util.TreeSet;
import java.util.regex.Matcher;
import java.util.regex.Pattern;

/** The rules of ../shared/LANGUAGE.md that can be seen from the program's text and its face. */
public final class LanguageRules {
    private static final Checks C = new Checks();
    /** The rules say "some sixty", "some twelve", "some twenty"; so a little more is let pass. */
    private static final int MOST_LINES = 66;
    private static final int MOST_CLASSES = 13;
    private static final int MOST_FIELDS = 22;

    public static void main(String[] args) throws IOException {
        String whole = Files.readString(Path.of("src/main/java/WhoComplainsCarries.java"));
        for (int i = 0; i < whole.length(); i++) {
            C.due("sign " + i + " is plain", whole.charAt(i) < 128 ? 0 : 1, 0);
        }
        String code = whole.replaceAll("(?s)/\\*.*?\\*/", "").replaceAll("//[^\n]*", "")
            .replaceAll("\"[^\"\n]*\"", "\"\"");
        face(Files.readString(Path.of("../shared/DOC.md")));
        words(code);
        classes(code);
        methods(code);
        C.end("LanguageRules");
    }

    /** Rule 1: the document's face and nothing else that can be seen. */
    private static void face(String document) {
        Set<String> due = new TreeSet<>();
        Matcher m = Pattern.compile("(?m)^    public ([a-z]+ [a-zA-Z]+\\([^)]*\\));").matcher(document);
        while (m.find()) {
            due.add(m.group(1).replaceAll(" [a-z]+([,)])", "$1"));
        }
        Set<String> got = new TreeSet<>();
        Set<String> hidden = new TreeSet<>();
        for (Method method : WhoComplainsCarries.class.getDeclaredMethods()) {
            boolean open = Modifier.isPublic(method.getModifiers());
            if (open) {
                StringBuilder types = new StringBuilder();
                for (Class<?> type : method.getParameterTypes()) {
                    types.append(types.length() == 0 ? "" : ", ").append(type.getName());
                }
                got.add(method.getReturnType().getName() + " " + method.getName() + "(" + types + ")");
            } else {
                hidden.add(method.getName());
                C.due(method + " is private", Modifier.isPrivate(method.getModifiers()) ? 1 : 0, 1);
            }
        }
        C.due("methods of the face", due.size(), 39);
        C.due("the face " + due + " is " + got, due.equals(got) ? 1 : 0, 1);
        for (Method method : WhoComplainsCarries.class.getDeclaredMethods()) {
            boolean twice = Modifier.isPublic(method.getModifiers()) && hidden.contains(method.getName());
            C.due(method + " has its name alone", twice ? 1 : 0, 0);
        }
        for (Field field : WhoComplainsCarries.class.getDeclaredFields()) {
            boolean none = field.getName().equals("NONE");
            C.due(field + " is private", Modifier.isPrivate(field.getModifiers()) || none ? 1 : 0, 1);
        }
        Constructor<?>[] constructors = WhoComplainsCarries.class.getDeclaredConstructors();
        C.due("one constructor", constructors.length, 1);
        C.due("a public one", Modifier.isPublic(constructors[0].getModifiers()) ? 1 : 0, 1);
    }

    /** Rules 2, 3, 4, 6, 13: what must not stand there. */
    private static void words(String code) {
        String[] never = {"\\bthrows?\\b", "\\btry\\b", "\\bcatch\\b", "\\bfinally\\b",
            "\\bsynchronized\\b", "\\bassert\\b", "\\bpackage\\b", "::", "\\bhashCode\\b",
            "Exact\\b", "\\bObject\\b", "\\bString ?\\[", "\\bString\\.", "\\bnanoTime|\\bcurrentTime",
            "\\bThread\\b", "\\brandom\\b", "\\bRandom\\b"};
        for (String word : never) {
            Matcher m = Pattern.compile(word).matcher(code);
            C.due("without " + word, m.find() ? 1 : 0, 0);
        }
        String plain = code.replaceAll("(\\bcase\\b[^;{}:]*|\\bdefault\\s*)->", "");
        C.due("without a lambda", plain.contains("->") ? 1 : 0, 0);
        Matcher m = Pattern.compile("\\b(System|Arrays)\\.(\\w+)").matcher(code);
        Set<String> free = Set.of("System.arraycopy", "Arrays.copyOf", "Arrays.copyOfRange",
            "Arrays.fill");
        while (m.find()) {
            C.due(m.group() + " is free to use", free.contains(m.group()) ? 1 : 0, 1);
        }
        m = Pattern.compile("(?m)^import ([\\w.*]+);").matcher(code);
        Set<String> lists = Set.of("java.util.ArrayList", "java.util.List", "java.util.Arrays",
            "java.util.Iterator");
        while (m.find()) {
            C.due(m.group() + " is free to use", lists.contains(m.group(1)) ? 1 : 0, 1);
        }
    }

    /** Rules 2, 5, 11: the classes inside, static fields. */
    private static void classes(String code) {
        Class<?>[] inside = WhoComplainsCarries.class.getDeclaredClasses();
        C.due("some twelve classes at most", inside.length <= MOST_CLASSES ? 1 : 0, 1);
        List<Class<?>> all = new ArrayList<>(List.of(inside));
        all.add(WhoComplainsCarries.class);
        for (Class<?> one : all) {
            boolean outer = one == WhoComplainsCarries.class;
            C.due(one + " is static", outer || Modifier.isStatic(one.getModifiers()) ? 1 : 0, 1);
            int fields = 0;
            for (Field field : one.getDeclaredFields()) {
                boolean constant = Modifier.isStatic(field.getModifiers());
                fields += constant ? 0 : 1;
                boolean fine = !constant || Modifier.isFinal(field.getModifiers());
                C.due(field + " is final", fine ? 1 : 0, 1);
            }
            C.due(one + " has some twenty fields at most", fields <= MOST_FIELDS ? 1 : 0, 1);
        }
        C.due("no static block", Pattern.compile("static\\s*\\{").matcher(code).find() ? 1 : 0, 0);
    }

    /** Rule 11: short methods of few parameters. */
    private static void methods(String code) {
        Pattern head = Pattern.compile("^( {4}| {8})(?! )(?:public |private |static )*[A-Za-z\\[\\]<> ]*\\((.*)\\) \\{$");
        String[] lines = code.split("\n", -1);
        for (int i = 0; i < lines.length; i++) {
            Matcher m = head.matcher(lines[i]);
            if (!m.find()) {
                continue;
            }
            int end = i;
            while (end < lines.length && !lines[end].equals(m.group(1) + "}")) {
                end++;
            }
            C.due(lines[i] + " is short", end - i <= MOST_LINES ? 1 : 0, 1);
            C.due(lines[i] + " has few parameters", m.group(2).split(",").length <= 7 ? 1 : 0, 1);
        }
    }
}
