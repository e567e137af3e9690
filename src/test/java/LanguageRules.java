import java.io.IOException;
import java.lang.reflect.Constructor;
import java.lang.reflect.Field;
import java.lang.reflect.Method;
import java.lang.reflect.Modifier;
import java.nio.file.Files;
import java.nio.file.Path;
import java.util.Set;
import java.util.TreeSet;
import java.util.regex.Matcher;
import java.util.regex.Pattern;

/** Rules 1 and 3 of ../shared/LANGUAGE.md: the face is the document's, and each sign is plain. */
public final class LanguageRules {
    private static final Checks C = new Checks();

    public static void main(String[] args) throws IOException {
        String whole = Files.readString(Path.of("src/main/java/WhoComplainsCarries.java"));
        for (int i = 0; i < whole.length(); i++) {
            C.due("sign " + i + " is plain", whole.charAt(i) < 128 ? 0 : 1, 0);
        }
        face(Files.readString(Path.of("../shared/DOC.md")));
        C.end("LanguageRules");
    }

    /** Rule 1: the document's face and nothing else that can be seen. */
    private static void face(String document) {
        Set<String> due = new TreeSet<>();
        Matcher m = Pattern.compile("(?m)^    public ([a-z]+ [a-zA-Z]+\\([^)]*\\));").matcher(document);
        while (m.find()) {
            due.add(m.group(1).replaceAll(" [a-z]+([,)])", "$1"));
        }
        Set<String> got = new TreeSet<>();
        Set<String> hidden = new TreeSet<>();
        for (Method method : WhoComplainsCarries.class.getDeclaredMethods()) {
            boolean open = Modifier.isPublic(method.getModifiers());
            if (open) {
                StringBuilder types = new StringBuilder();
                for (Class<?> type : method.getParameterTypes()) {
                    types.append(types.length() == 0 ? "" : ", ").append(type.getName());
                }
                got.add(method.getReturnType().getName() + " " + method.getName() + "(" + types + ")");
            } else {
                hidden.add(method.getName());
                C.due(method + " is private", Modifier.isPrivate(method.getModifiers()) ? 1 : 0, 1);
            }
        }
        C.due("methods of the face", due.size(), 39);
        C.due("the face " + due + " is " + got, due.equals(got) ? 1 : 0, 1);
        for (Method method : WhoComplainsCarries.class.getDeclaredMethods()) {
            boolean twice = Modifier.isPublic(method.getModifiers()) && hidden.contains(method.getName());
            C.due(method + " has its name alone", twice ? 1 : 0, 0);
        }
        Set<String> open = new TreeSet<>();
        for (Field field : WhoComplainsCarries.class.getDeclaredFields()) {
            if (!Modifier.isPrivate(field.getModifiers())) {
                open.add(field.toString().replace("WhoComplainsCarries.", ""));
            }
        }
        boolean none = open.equals(Set.of("public static final int NONE"));
        C.due("the constants of the face: " + open, none ? 1 : 0, 1);
        Constructor<?>[] constructors = WhoComplainsCarries.class.getDeclaredConstructors();
        C.due("one constructor", constructors.length, 1);
        C.due("a public one", Modifier.isPublic(constructors[0].getModifiers()) ? 1 : 0, 1);
    }
}
