import java.io.IOException;
import java.net.URL;
import java.net.URLClassLoader;
import java.nio.file.Files;
import java.nio.file.Path;
import java.util.Comparator;
import java.util.HashSet;
import java.util.List;
import java.util.Set;
import java.util.TreeSet;
import java.util.stream.Stream;
import javax.tools.ToolProvider;

/**
 * Bounds that no words come to: no known words have more than 2000 states of knowing, and THE DRAFT has no
 * room for more than 10 to the 15 READINGS. They are tested on the program's own text with a lesser bound in
 * the place of the real one; that the real ones stand there is tested as well.
 */
public final class LoweredTest {
    private static final Path PROGRAM = Path.of("src/main/java/RunTogether.java");
    private static final String STATES = "MOST_STATES = 2000;";
    private static final String COUNTED = "MOST_COUNTED = 1000000000000000L;";
    private static final int NONE = RunTogether.NONE, OUTSIDE = RunTogether.OUTSIDE, LARGE = RunTogether.LARGE;
    private final Due due = new Due();
    private final String program = Files.readString(PROGRAM);
    private final Path classes = Files.createTempDirectory("lowered");

    private LoweredTest() throws IOException { }

    public static void main(String[] args) throws Exception {
        LoweredTest test = new LoweredTest();
        try {
            test.due.holds("the bounds do not stand in the program as the document tells them", test.program.contains(STATES) && test.program.contains(COUNTED));
            if (test.due.isRight()) {
                test.keyLarge();
                test.strangeLarge();
                test.rowsLarge();
                test.readingsLarge();
                test.waysAndRowsLarge();
            }
        } finally {
            test.removeClasses();
        }
        test.due.close();
    }

    private void removeClasses() throws IOException {
        try (Stream<Path> all = Files.walk(classes)) {
            for (Path path : all.sorted(Comparator.reverseOrder()).toList()) Files.delete(path);
        }
    }

    /** An object of the program with another text in the place of one of its bounds. */
    private Object lowered(String bound, long to) throws Exception {
        Path room = Files.createTempDirectory(classes, "one");
        Path file = room.resolve("RunTogether.java");
        String from = bound.substring(bound.indexOf("= "));
        Files.writeString(file, program.replace(bound, bound.replace(from, "= " + to + (from.contains("L") ? "L;" : ";"))));
        int failed = ToolProvider.getSystemJavaCompiler().run(null, null, null, "-d", room.toString(), file.toString());
        due.is("the program with another bound is compiled", failed, 0);
        URLClassLoader loader = new URLClassLoader(new URL[] {room.toUri().toURL()}, ClassLoader.getPlatformClassLoader());
        return loader.loadClass("RunTogether").getConstructor().newInstance();
    }

    private static long call(Object x, String name, Object... arguments) throws Exception {
        for (var method : x.getClass().getMethods()) {
            if (method.getName().equals(name) && method.getParameterCount() == arguments.length) {
                return ((Number) method.invoke(x, arguments)).longValue();
            }
        }
        throw new IllegalStateException(name);
    }

    private static void tell(Object x, int k, String text) throws Exception {
        call(x, "letters", k);
        for (int i = 0; i < text.length(); i++) call(x, "feed", 1, (long) text.charAt(i));
        call(x, "read");
    }

    // ---- states of knowing, counted anew: sets of what may still be to come of the WORD one is in

    private static Set<String> behind(List<String> words, Set<String> rests, char letter) {
        Set<String> next = new TreeSet<>();
        for (String rest : rests) {
            if (!rest.isEmpty() && rest.charAt(rest.indexOf('.') + 1) == letter) next.add(rest.replaceFirst("\\..", "."));
        }
        boolean isAtEnd = next.removeIf(rest -> rest.endsWith("."));
        if (isAtEnd) next.addAll(begun(words));
        return next;
    }

    private static Set<String> begun(List<String> words) {
        Set<String> rests = new TreeSet<>();
        for (int w = 0; w < words.size(); w++) rests.add(w + "." + words.get(w));
        return rests;
    }

    /** How many unlike states are come to by at most so many letters, up to the first key or strange row. */
    private static int states(int k, String text, int letters, String sought) {
        List<String> words = List.of(text.split(";"));
        Set<String> start = begun(words);
        if (!sought.equals("rows")) {
            for (int w = 0; w < words.size(); w++) {
                for (int i = 1; i < words.get(w).length(); i++) start.add(w + "." + words.get(w).substring(i));
            }
        }
        Set<Set<String>> seen = new HashSet<>(List.of(start));
        List<Set<String>> now = List.of(start);
        for (int length = 1; length <= letters; length++) {
            List<Set<String>> then = new java.util.ArrayList<>();
            for (Set<String> state : now) {
                for (int a = 0; a < k; a++) {
                    Set<String> next = behind(words, state, (char) ('a' + a));
                    boolean isFound = sought.equals("key") && next.equals(begun(words)) || sought.equals("strange") && next.isEmpty();
                    if (isFound) return seen.size();
                    if (!next.isEmpty() && seen.add(next)) then.add(next);
                }
            }
            now = then;
        }
        return seen.size();
    }

    private static final String[] MANY = {
        "bbabbbbb;babb;abbb;bbbbbbcb;bbbbabbb;bbbbc;ab;bbbbbcbb;cbbbbbab;a;bcbbbbba;bbcbbb;bbbcbbbb;bbbbbbb;bbbabbbb;abba;",
        "aaaa;b;aab;ba;aba;baa;"};

    private void keyLarge() throws Exception {
        due.says("Promise 18", "LARGE: more than 2000 unlike states of knowing are come to ahead of it.");
        atBound(2, "abbbabbb;b;bb;", 12, "key", "key", NONE);
        atBound(2, "abaaaaa;baaaaaa;", 12, "key", "key", NONE);
    }

    private void strangeLarge() throws Exception {
        due.says("Promise 19", "LARGE likewise.");
        atBound(2, MANY[1], 12, "strange", "strange", NONE);
        atBound(2, "baba;bbabb;ab;bbb;a;bba;", 12, "strange", "strange", NONE);
    }

    private void rowsLarge() throws Exception {
        due.says("Promise 21", "or more than 2000 unlike states of knowing on the way.");
        for (int n : new int[] {3, 20}) atBound(3, MANY[0], n, "rows", "rows", n);
        // All states of these are come to long ahead of the last letter: a full room must go on.
        for (int n : new int[] {12, 20}) atBound(2, "aab;ab;b;", n, "rows", "rows", n);
    }

    /** With as many states as the bound it answers as ever, with one more it is LARGE. */
    private void atBound(int k, String words, int letters, String sought, String name, int argument) throws Exception {
        int many = states(k, words, letters, sought);
        Object real = new RunTogether();
        tell(real, k, words);
        Object enough = lowered(STATES, many);
        tell(enough, k, words);
        due.is(name + " of " + words + " with " + many + " states", call(enough, name, argument), call(real, name, argument));
        Object tooFew = lowered(STATES, many - 1);
        tell(tooFew, k, words);
        due.is(name + " of " + words + " with one state too few", call(tooFew, name, argument), LARGE);
        due.is("again", call(tooFew, name, argument), LARGE);
        if (!name.equals("rows")) due.is(name + "(0)", call(tooFew, name, 0), LARGE);
        due.is("LARGE has changed nothing", call(tooFew, "count", 1), call(real, "count", 1));
        tell(tooFew, k, "ab;");
        due.is("fewer words behind LARGE", call(tooFew, "key", NONE), 1);
    }

    private void waysAndRowsLarge() throws Exception {
        due.says("Promise 21", "LARGE: above 10 to the 15,");
        for (long bound : new long[] {31, 32}) {
            Object x = lowered(COUNTED, bound);
            tell(x, 2, "a;b;");
            due.is("32 rows, " + bound + " at the most", call(x, "rows", 5), bound < 32 ? LARGE : 32);
            due.is("32 ways, " + bound + " at the most", call(x, "ways", 5), bound < 32 ? LARGE : 32);
            due.is("16 rows, " + bound + " at the most", call(x, "rows", 4), 16);
            due.is("64 rows, " + bound + " at the most", call(x, "rows", 6), LARGE);
            due.is("64 ways, " + bound + " at the most", call(x, "ways", 6), LARGE);
        }
    }

    private void readingsLarge() throws Exception {
        due.says("Promise 12", "LARGE: above 10 to the 15.");
        for (long bound : new long[] {88, 89, 90}) {
            Object x = lowered(COUNTED, bound);
            tell(x, 2, "a;aa;");
            for (int n = 0; n < 10; n++) call(x, "letter", 0);
            due.is("89 readings, " + bound + " at the most", call(x, "readings"), bound < 89 ? LARGE : 89);
            due.is("reading(" + bound + ", 0)", call(x, "reading", bound, 0), bound < 89 ? 1 : NONE);
            due.is("reading(" + (bound + 1) + ", 0)", call(x, "reading", bound + 1, 0), OUTSIDE);
            due.is("best(3)", call(x, "best", 3), 10);
            call(x, "letter", 0);
            due.is("144 readings, " + bound + " at the most", call(x, "readings"), LARGE);
            RunTogether real = Told.with(2, "a;aa;");
            for (int n = 0; n < 11; n++) real.letter(0);
            for (int j = 0; j < 12; j++) due.is("the last one that can be asked for", call(x, "reading", bound, j), real.reading(bound, j));
        }
    }
}
