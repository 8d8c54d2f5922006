import java.io.IOException;
import java.lang.reflect.Constructor;
import java.lang.reflect.Field;
import java.lang.reflect.Method;
import java.lang.reflect.Modifier;
import java.nio.file.Files;
import java.nio.file.Path;
import java.util.Arrays;
import java.util.List;
import java.util.TreeSet;
import java.util.regex.Pattern;

/** The public face, and those rules of LANGUAGE.md that can be seen from the text and the classes. */
public final class FaceTest {
    private static final Check check = new Check();
    private static final List<String> FACE = List.of(
            "int sign(int)", "int own()", "int peer(boolean)", "int start(int)", "int accept()",
            "int connected(int, boolean)", "int feed(int, long, long, long, long, int)", "int gone(int)",
            "int stop(int, int)", "int tick(int)", "int clock()", "int take(int)", "int waiting(int)",
            "int connection(int, int)", "int state(int, int)", "int account(long, long)", "long balance(long, int)",
            "int sessions()", "int session(int, int)", "long granted(int)", "int ask(int)", "int asked(int, int)",
            "int kept()", "int lost()");
    /** Words and signs that the rules leave out. */
    private static final List<String> NOT_THERE = List.of("\\bthrow\\b", "\\btry\\b", "\\bcatch\\b", "\\bsynchronized\\b",
            "\\bassert\\b", "->", "::", "Exact\\(", "\\bSystem\\.(?!arraycopy)", "\\bRandom\\b", "\\bThread\\b", "\\bvar\\b",
            "\\bpackage\\b", "\\bprotected\\b", "static \\{", "\\bhashCode\\b", "\\btoString\\b", "\\bequals\\b");

    public static void main(String[] args) throws IOException {
        face();
        fields(QuotaPeers.class);
        for (Class<?> inside : QuotaPeers.class.getDeclaredClasses()) {
            check.due(inside + " is static", Modifier.isStatic(inside.getModifiers()) ? 0 : 1, 0);
            fields(inside);
            parameters(inside);
        }
        check.due("classes", QuotaPeers.class.getDeclaredClasses().length <= 11 ? 0 : 1, 0);
        parameters(QuotaPeers.class);
        text();
        check.end("FaceTest");
    }

    private static void face() {
        TreeSet<String> found = new TreeSet<>();
        TreeSet<String> names = new TreeSet<>();
        for (Method method : QuotaPeers.class.getDeclaredMethods()) {
            if (!Modifier.isPrivate(method.getModifiers())) {
                String types = Arrays.toString(method.getParameterTypes()).replace("[", "(").replace("]", ")");
                found.add(method.getReturnType() + " " + method.getName() + types);
                names.add(method.getName());
                check.due(method + " is public", Modifier.isPublic(method.getModifiers()) ? 0 : 1, 0);
            }
        }
        check.due("the face: " + found, found.equals(new TreeSet<>(FACE)) ? 0 : 1, 0);
        for (Method method : QuotaPeers.class.getDeclaredMethods()) {
            boolean hidden = Modifier.isPrivate(method.getModifiers());
            check.due(method + " bears a public name", hidden && names.contains(method.getName()) ? 1 : 0, 0);
        }
        Constructor<?>[] constructors = QuotaPeers.class.getDeclaredConstructors();
        check.due("one constructor", constructors.length, 1);
        check.due("it is public", Modifier.isPublic(constructors[0].getModifiers()) ? 0 : 1, 0);
        check.due("the class is final", Modifier.isFinal(QuotaPeers.class.getModifiers()) ? 0 : 1, 0);
        for (Field field : QuotaPeers.class.getDeclaredFields()) {
            check.due(field + " is private", Modifier.isPrivate(field.getModifiers()) ? 0 : 1, 0);
        }
    }

    private static void fields(Class<?> one) {
        int count = 0;
        for (Field field : one.getDeclaredFields()) {
            if (Modifier.isStatic(field.getModifiers())) {
                check.due(field + " is final", Modifier.isFinal(field.getModifiers()) ? 0 : 1, 0);
            } else {
                count++;
            }
        }
        check.due("fields of " + one, count <= 20 ? 0 : 1, 0);
    }

    private static void parameters(Class<?> one) {
        for (Method method : one.getDeclaredMethods()) {
            check.due("parameters of " + method, method.getParameterCount() <= 7 ? 0 : 1, 0);
        }
    }

    private static void text() throws IOException {
        String text = Files.readString(Path.of("src/main/java/QuotaPeers.java"));
        String code = text.replaceAll("(?s)/\\*.*?\\*/", " ").replaceAll("//[^\n]*", " ");
        for (String word : NOT_THERE) {
            check.due("the text has " + word, Pattern.compile(word).matcher(code).find() ? 1 : 0, 0);
        }
        TreeSet<String> imports = new TreeSet<>();
        for (String line : code.split("\n")) {
            if (line.startsWith("import ")) {
                imports.add(line.trim());
            }
        }
        TreeSet<String> allowed = new TreeSet<>(List.of("import java.util.ArrayList;", "import java.util.Arrays;",
                "import java.util.List;"));
        check.due("imports: " + imports, allowed.containsAll(imports) ? 0 : 1, 0);
    }
}
