import java.io.IOException;
import java.lang.reflect.InvocationTargetException;
import java.lang.reflect.Method;
import java.lang.reflect.Modifier;
import java.net.URL;
import java.net.URLClassLoader;
import java.nio.file.Files;
import java.nio.file.Path;
import java.util.ArrayList;
import java.util.Comparator;
import java.util.List;
import java.util.Set;
import java.util.TreeSet;
import java.util.regex.Matcher;
import java.util.regex.Pattern;
import java.util.stream.Stream;
import javax.tools.ToolProvider;

/**
 * README.md shows how the class is used: its Java is compiled as it stands there, and each of its calls must
 * give the answer that is told behind it. It shows every call of the face, and names every test.
 */
public final class ReadmeTest {
    private static final Path README = Path.of("README.md");
    private static final Path TESTS = Path.of("src/test/java");
    private static final Pattern BLOCK = Pattern.compile("(?ms)^```java\\n(.*?)^```$");
    private static final Pattern CALL = Pattern.compile("((?:x\\.|tell\\().*?\\));\\s*// (-?\\d+): .*");
    private static final Pattern NO_ANSWER = Pattern.compile("RunTogether x = new RunTogether\\(\\);|for \\(.*;|");
    private static final Pattern NAMED = Pattern.compile("`(\\w+Test)`");
    private final Due due = new Due();
    private final String readme = Files.readString(README);
    private final StringBuilder methods = new StringBuilder();
    private final StringBuilder calls = new StringBuilder();
    private final List<String> asked = new ArrayList<>();
    private final List<Long> told = new ArrayList<>();

    private ReadmeTest() throws IOException { }

    public static void main(String[] args) throws Exception {
        ReadmeTest test = new ReadmeTest();
        test.takeBlocks();
        test.everyCallIsShown();
        test.everyTestIsNamed();
        if (test.due.isRight()) test.makeCalls();
        test.due.close();
    }

    private void takeBlocks() {
        Matcher block = BLOCK.matcher(readme);
        while (block.find()) {
            if (block.group(1).startsWith("static ")) {
                methods.append(block.group(1));
                continue;
            }
            for (String row : block.group(1).split("\n")) takeRow(row);
        }
        due.holds("README.md shows calls with their answers", !asked.isEmpty());
    }

    private void takeRow(String row) {
        Matcher call = CALL.matcher(row);
        if (call.matches()) {
            calls.append("answers.add((long) ").append(call.group(1)).append(");\n");
            asked.add(call.group(1));
            told.add(Long.parseLong(call.group(2)));
            return;
        }
        due.holds("README.md tells no answer: " + row, NO_ANSWER.matcher(row).matches());
        calls.append(row).append('\n');
    }

    private void everyCallIsShown() {
        String shown = String.join("\n", asked);
        for (Method method : RunTogether.class.getDeclaredMethods()) {
            if (!Modifier.isPublic(method.getModifiers())) continue;
            due.holds("README.md does not show " + method.getName(), shown.contains("x." + method.getName() + "("));
        }
    }

    private void everyTestIsNamed() throws IOException {
        Set<String> there = new TreeSet<>();
        try (Stream<Path> all = Files.list(TESTS)) {
            all.map(path -> path.getFileName().toString()).filter(name -> name.endsWith("Test.java"))
                    .forEach(name -> there.add(name.substring(0, name.length() - ".java".length())));
        }
        Set<String> named = new TreeSet<>();
        Matcher name = NAMED.matcher(readme);
        while (name.find()) named.add(name.group(1));
        due.alike("the tests that README.md names", named.toString(), there.toString());
    }

    private void makeCalls() throws Exception {
        Path room = Files.createTempDirectory("readme");
        try {
            List<?> answers = answersOf(room);
            due.is("as many answers as calls", answers.size(), asked.size());
            for (int i = 0; i < answers.size() && i < asked.size(); i++) {
                due.is("README.md: " + asked.get(i), (Long) answers.get(i), told.get(i));
            }
        } finally {
            try (Stream<Path> all = Files.walk(room)) {
                for (Path path : all.sorted(Comparator.reverseOrder()).toList()) Files.delete(path);
            }
        }
    }

    private List<?> answersOf(Path room) throws Exception {
        Path file = room.resolve("Shown.java");
        Files.writeString(file, "public final class Shown {\n" + methods
                + "public static java.util.List<Long> answers() {\njava.util.List<Long> answers = new java.util.ArrayList<>();\n"
                + calls + "return answers;\n}\n}\n");
        int failed = ToolProvider.getSystemJavaCompiler().run(null, null, null,
                "-cp", System.getProperty("java.class.path"), "-d", room.toString(), file.toString());
        due.is("what README.md shows is compiled", failed, 0);
        if (failed != 0) return List.of();
        try (URLClassLoader loader = new URLClassLoader(new URL[] {room.toUri().toURL()})) {
            return (List<?>) loader.loadClass("Shown").getMethod("answers").invoke(null);
        } catch (InvocationTargetException thrown) {
            due.holds("what README.md shows throws " + thrown.getCause(), false);
            return List.of();
        }
    }
}
