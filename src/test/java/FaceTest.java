import java.io.IOException;
import java.lang.reflect.Constructor;
import java.lang.reflect.Field;
import java.lang.reflect.Method;
import java.lang.reflect.Modifier;
import java.nio.file.Files;
import java.nio.file.Path;
import java.util.Set;
import java.util.TreeSet;

/** The public face of the document, and the rules of LANGUAGE.md that can be seen from outside. */
public final class FaceTest {
    private static final Checks CHECKS = new Checks();

    private static final Set<String> FACE = Set.of(
        "boolean net(int)", "int edge(int,int,int)", "boolean identity(int,int)", "int ready()",
        "boolean choose(int,int)", "int round()", "int run(int)", "boolean finished()",
        "int rounds()", "int letters()", "int held(int,int)");

    private static final Set<String> IMPORTS = Set.of(
        "import java.util.Arrays;", "import java.util.ArrayList;", "import java.util.List;");

    private static final String[] RULED_OUT = {
        "->", "::", "finally", "synchronized", "assert", "package ", "System.out", "Random",
        "nanoTime", "currentTimeMillis", "Exact(", "Thread", "import java.io", "double", "float"};

    public static void main(String[] args) throws IOException {
        methods();
        constructors();
        fields();
        nested();
        source();
        CHECKS.end();
    }

    private static void methods() {
        Set<String> seen = new TreeSet<>();
        Set<String> names = new TreeSet<>();
        for (Method method : RoundBench.class.getDeclaredMethods()) {
            if (Modifier.isPublic(method.getModifiers())) {
                seen.add(signature(method));
                names.add(method.getName());
            }
        }
        CHECKS.same("the public methods are the document's: " + seen, seen.equals(FACE), true);
        for (Method method : RoundBench.class.getDeclaredMethods()) {
            int kind = method.getModifiers();
            if (!Modifier.isPublic(kind)) {
                CHECKS.same(method + " is private", Modifier.isPrivate(kind), true);
                CHECKS.same(method + " has a public one's name", names.contains(method.getName()), false);
            }
        }
        CHECKS.same("the class is public and final", RoundBench.class.getModifiers(),
            Modifier.PUBLIC | Modifier.FINAL);
    }

    private static String signature(Method method) {
        StringBuilder text = new StringBuilder();
        text.append(method.getReturnType()).append(' ').append(method.getName()).append('(');
        for (Class<?> type : method.getParameterTypes()) {
            text.append(text.charAt(text.length() - 1) == '(' ? "" : ",").append(type);
        }
        return text.append(')').toString();
    }

    private static void constructors() {
        Constructor<?>[] all = RoundBench.class.getDeclaredConstructors();
        CHECKS.same("one constructor", all.length, 1);
        CHECKS.same("without parameters", all[0].getParameterCount(), 0);
        CHECKS.same("that is public", Modifier.isPublic(all[0].getModifiers()), true);
    }

    private static void fields() {
        for (Field field : RoundBench.class.getDeclaredFields()) {
            int kind = field.getModifiers();
            boolean isNone = field.getName().equals("NONE");
            CHECKS.same(field + " is public", Modifier.isPublic(kind), isNone);
            CHECKS.same(field + " is private", Modifier.isPrivate(kind), !isNone);
        }
        staticFields(RoundBench.class);
    }

    private static void nested() {
        Class<?>[] all = RoundBench.class.getDeclaredClasses();
        CHECKS.same("at most twelve classes", all.length + 1 <= 12, true);
        sizes(RoundBench.class);
        for (Class<?> inside : all) {
            int kind = inside.getModifiers();
            CHECKS.same(inside + " is static", Modifier.isStatic(kind), true);
            CHECKS.same(inside + " is hidden", !Modifier.isPublic(kind) && !Modifier.isProtected(kind), true);
            CHECKS.same(inside + " has classes inside", inside.getDeclaredClasses().length, 0);
            sizes(inside);
            staticFields(inside);
        }
    }

    /** Rule 11: "at most seven parameters", "some twenty fields beside its constants". */
    private static void sizes(Class<?> type) {
        for (Method method : type.getDeclaredMethods()) {
            CHECKS.same(method + " takes at most seven", method.getParameterCount() <= 7, true);
        }
        int fields = 0;
        for (Field field : type.getDeclaredFields()) {
            fields += Modifier.isStatic(field.getModifiers()) ? 0 : 1;
        }
        CHECKS.same(type + " has at most twenty fields", fields <= 20, true);
    }

    /** Rule 5: "Static fields are final". */
    private static void staticFields(Class<?> type) {
        for (Field field : type.getDeclaredFields()) {
            int kind = field.getModifiers();
            CHECKS.same(field + " is final if static", !Modifier.isStatic(kind) || Modifier.isFinal(kind), true);
        }
    }

    private static void source() throws IOException {
        String code = Files.readString(Path.of("src/main/java/RoundBench.java"))
            .replaceAll("(?s)/\\*.*?\\*/", "").replaceAll("//[^\n]*", "");
        for (String word : RULED_OUT) {
            CHECKS.same("the source has '" + word + "'", code.contains(word), false);
        }
        for (String line : code.split("\n")) {
            boolean isImport = line.startsWith("import ");
            CHECKS.same("may be imported: " + line, !isImport || IMPORTS.contains(line), true);
        }
    }
}
