import java.io.IOException;
import java.io.UncheckedIOException;
import java.lang.reflect.Method;
import java.lang.reflect.Modifier;
import java.nio.file.DirectoryStream;
import java.nio.file.Files;
import java.nio.file.Path;
import java.util.ArrayList;
import java.util.List;
import java.util.Set;
import java.util.TreeSet;
import java.util.regex.Matcher;
import java.util.regex.Pattern;

/** README.md: its calls answer as it says, and it names each call, each test and how to run them. */
public final class ReadmeTest {
    private static final Checks CHECKS = new Checks();
    private static final Pattern CALL = Pattern.compile("bench\\.(\\w+)\\(([^)]*)\\);\\s+// ([^\\s:]+)(: .*)?");
    private static final String MAKING = "RoundBench bench = new RoundBench();";

    public static void main(String[] args) throws ReflectiveOperationException {
        String text = read(Path.of("README.md"));
        calls(text);
        callsInTheTable(text);
        wayToRun(text);
        namesOfTests(text);
        CHECKS.end();
    }

    private static String read(Path path) {
        try {
            return Files.readString(path);
        } catch (IOException broken) {
            throw new UncheckedIOException(broken);
        }
    }

    /** The lines of the one block of this kind. */
    private static List<String> block(String text, String kind) {
        List<String> lines = new ArrayList<>();
        Matcher matcher = Pattern.compile("(?s)\n```" + kind + "\n(.*?)\n```\n").matcher(text);
        int blocks = 0;
        while (matcher.find()) {
            blocks++;
            for (String line : matcher.group(1).split("\n")) {
                if (!line.isBlank()) {
                    lines.add(line);
                }
            }
        }
        CHECKS.same("blocks of kind " + kind, blocks, 1);
        return lines;
    }

    private static Set<String> face() {
        Set<String> names = new TreeSet<>();
        for (Method method : RoundBench.class.getDeclaredMethods()) {
            if (Modifier.isPublic(method.getModifiers())) {
                names.add(method.getName());
            }
        }
        return names;
    }

    private static void calls(String text) throws ReflectiveOperationException {
        List<String> lines = block(text, "java");
        CHECKS.same("the first line makes a bench", lines.get(0).equals(MAKING), true);
        RoundBench bench = new RoundBench();
        Set<String> shown = new TreeSet<>();
        for (String line : lines.subList(1, lines.size())) {
            Matcher matcher = CALL.matcher(line);
            boolean isCall = matcher.matches();
            CHECKS.same("a call with its answer: " + line, isCall, true);
            if (isCall) {
                String got = answer(bench, matcher.group(1), matcher.group(2));
                CHECKS.same(line + " (it answered " + got + ")", got.equals(matcher.group(3)), true);
                shown.add(matcher.group(1));
            }
        }
        CHECKS.same("calls of the face that are shown: " + shown, shown.equals(face()), true);
    }

    private static String answer(RoundBench bench, String name, String list) throws ReflectiveOperationException {
        String[] texts = list.isEmpty() ? new String[0] : list.split(", ");
        Class<?>[] types = new Class<?>[texts.length];
        Object[] values = new Object[texts.length];
        for (int i = 0; i < texts.length; i++) {
            types[i] = int.class;
            values[i] = Integer.valueOf(texts[i]);
        }
        return RoundBench.class.getMethod(name, types).invoke(bench, values).toString();
    }

    private static void callsInTheTable(String text) {
        Set<String> named = new TreeSet<>();
        Matcher matcher = Pattern.compile("\n\\| `(\\w+)\\(").matcher(text);
        while (matcher.find()) {
            named.add(matcher.group(1));
        }
        CHECKS.same("calls in the table: " + named, named.equals(face()), true);
    }

    private static void wayToRun(String text) {
        List<String> lines = block(text, "sh");
        CHECKS.same("the way to run the tests is .ci/run", lines.equals(List.of(".ci/run")), true);
        CHECKS.same(".ci/run can be run", Files.isExecutable(Path.of(".ci/run")), true);
    }

    private static void namesOfTests(String text) {
        Set<String> named = new TreeSet<>();
        Matcher matcher = Pattern.compile("`(\\w+Test)`").matcher(text);
        while (matcher.find()) {
            named.add(matcher.group(1) + ".java");
        }
        Set<String> there = new TreeSet<>();
        try (DirectoryStream<Path> files = Files.newDirectoryStream(Path.of("src/test/java"), "*Test.java")) {
            for (Path file : files) {
                there.add(file.getFileName().toString());
            }
        } catch (IOException broken) {
            throw new UncheckedIOException(broken);
        }
        CHECKS.same("tests that are named: " + named, named.equals(there), true);
    }
}
