import java.lang.reflect.Constructor;
import java.lang.reflect.Field;
import java.lang.reflect.Method;
import java.lang.reflect.Modifier;
import java.nio.file.Files;
import java.nio.file.Path;
import java.util.ArrayList;
import java.util.List;
import java.util.Map;
import java.util.Set;
import java.util.TreeMap;
import java.util.TreeSet;
import java.util.regex.Matcher;
import java.util.regex.Pattern;

/** The public face as the document writes it, and the rules of LANGUAGE.md as far as they can be seen from outside. */
public final class FaceTest {
    private static final String[] METHODS = {
        "int letters(int)", "int feed(int,long)", "int read()", "int fault()", "int word(int,int)",
        "int follows(int,int,boolean)", "int count(int)", "int letter(int)", "int append(int)", "int clear()",
        "long readings()", "int reading(long,int)", "int best(int)", "int cheapest(int)", "int end(int)",
        "int within(int)", "int key(int)", "int strange(int)", "long ways(int)", "long rows(int)",
        "int price(int,int)", "int patched(int)", "int line()", "int drop()", "int totals()", "int uses(int)",
        "int learn(int)", "int fresh(int,int)"};
    private static final String[] FORBIDDEN = {
        "\\bthrow\\b", "\\bthrows\\b", "\\btry\\b", "\\bcatch\\b", "\\bfinally\\b", "\\bsynchronized\\b", "\\bassert\\b",
        "->", "::", "\\bstrictfp\\b", "\\bnative\\b", "\\bvar\\b", "\\bpackage\\b", "\\w*Exact\\b", "\\bSystem\\.(?!arraycopy)",
        "\\bThread\\b", "\\bRandom\\b", "\\bhashCode\\b", "\\btoString\\b", "\\bstatic\\s*\\{", "\\bObject\\b",
        "while\\s*\\(\\s*true", "for\\s*\\(\\s*;\\s*;"};
    private static final int MOST_DEEP = 8;
    private static final Path DOCUMENT = Path.of("../shared/DOC.md");
    private final Due due = new Due();

    public static void main(String[] args) throws Exception {
        FaceTest test = new FaceTest();
        test.document();
        test.face();
        test.parts();
        test.classes();
        test.source();
        test.due.close();
    }

    private void hold(String what, boolean holds) {
        due.is(what, holds ? 1 : 0, 1);
    }

    /** The document's own writing of the face: what is tested below is that, and each method has its promise. */
    private void document() throws Exception {
        String document = Files.readString(DOCUMENT);
        Matcher block = Pattern.compile("(?ms)^## The public face$.*?^```java$(.*?)^```$").matcher(document);
        hold("the document writes the face", block.find());
        hold("the document writes the class and its constructor", block.group(1).contains("public final class RunTogether {")
                && block.group(1).contains("    public RunTogether();"));
        Set<String> written = new TreeSet<>();
        Matcher method = Pattern.compile("public (\\w+ \\w+)\\(([^)]*)\\);").matcher(block.group(1));
        int order = 1;
        while (method.find()) {
            written.add(method.group(1) + "(" + method.group(2).replaceAll(" \\w+(,? ?)", "$1").replace(" ", "") + ")");
            order++;
            hold("Promise " + order + " is " + method.group(1), document.contains("\n## Promise " + order + ": "
                    + method.group(1).replaceAll("\\w+ ", "") + "\n\n`" + method.group(1) + "(" + method.group(2) + ")`:"));
        }
        due.is("promises", order, 29);
        due.alike("the methods that the document writes", written.toString(), new TreeSet<>(List.of(METHODS)).toString());
        Matcher constants = Pattern.compile("public static final int ([^;]*);").matcher(block.group(1));
        hold("the document writes the constants", constants.find());
        for (String constant : constants.group(1).split(", ")) {
            String[] parts = constant.split(" = ");
            due.is(parts[0], RunTogether.class.getField(parts[0]).getInt(null), Integer.parseInt(parts[1]));
        }
    }

    /** Ahead of the calls of each part the program says what the document's interface says there. */
    private void parts() throws Exception {
        String source = Files.readString(Path.of("src/main/java/RunTogether.java"));
        Matcher part = Pattern.compile("Ahead of the calls (.*) the interface says: (---- .*)\\.").matcher(Files.readString(DOCUMENT));
        int at = 0;
        int parts = 0;
        while (part.find()) {
            parts++;
            int heading = source.indexOf("    // " + part.group(2) + "\n", at);
            hold("'" + part.group(2) + "' stands in the program, behind the part ahead", heading >= at);
            at = Math.max(at, heading);
            for (String name : part.group(1).replace("`", "").split(", ")) {
                Matcher method = Pattern.compile("\n    public (int|long) " + name + "\\(").matcher(source);
                hold(name + " stands behind what is ahead of it in " + part.group(2), method.find(at));
                if (method.find(at)) at = method.end();
            }
        }
        due.is("parts of the interface", parts, 5);
    }

    private void face() {
        Class<?> face = RunTogether.class;
        hold("public and final", Modifier.isPublic(face.getModifiers()) && Modifier.isFinal(face.getModifiers()));
        Set<String> want = new TreeSet<>(List.of(METHODS));
        Set<String> got = new TreeSet<>();
        for (Method method : face.getDeclaredMethods()) {
            if (Modifier.isPrivate(method.getModifiers())) continue;
            hold("public: " + method, method.getModifiers() == Modifier.PUBLIC);
            StringBuilder text = new StringBuilder(method.getReturnType() + " " + method.getName() + "(");
            for (Class<?> type : method.getParameterTypes()) text.append(text.charAt(text.length() - 1) == '(' ? "" : ",").append(type);
            got.add(text.append(")").toString());
        }
        hold("the methods of the face: " + got, got.equals(want));
        Set<String> constants = new TreeSet<>();
        for (Field field : face.getDeclaredFields()) {
            if (Modifier.isPrivate(field.getModifiers())) continue;
            hold("a constant: " + field, field.getModifiers() == (Modifier.PUBLIC | Modifier.STATIC | Modifier.FINAL) && field.getType() == int.class);
            constants.add(field.getName());
        }
        hold("the constants of the face", constants.equals(Set.of("NONE", "UNKNOWN", "OUTSIDE", "NOT", "FULL", "LARGE")));
        Constructor<?>[] made = face.getDeclaredConstructors();
        hold("one public constructor", made.length == 1 && Modifier.isPublic(made[0].getModifiers()) && made[0].getParameterCount() == 0);
        due.is("NONE", RunTogether.NONE, -1);
        due.is("UNKNOWN", RunTogether.UNKNOWN, -1001);
        due.is("OUTSIDE", RunTogether.OUTSIDE, -1002);
        due.is("NOT", RunTogether.NOT, -1003);
        due.is("FULL", RunTogether.FULL, -1004);
        due.is("LARGE", RunTogether.LARGE, -1005);
    }

    private void classes() {
        List<Class<?>> all = new ArrayList<>(List.of(RunTogether.class.getDeclaredClasses()));
        Set<String> publicNames = new TreeSet<>();
        for (String method : METHODS) publicNames.add(method.substring(method.indexOf(' ') + 1, method.indexOf('(')));
        hold("at most twelve classes", all.size() + 1 <= 12);
        all.add(RunTogether.class);
        for (Class<?> one : all) {
            if (one != RunTogether.class) {
                hold("static: " + one, Modifier.isStatic(one.getModifiers()));
                hold("not public: " + one, !Modifier.isPublic(one.getModifiers()) && !Modifier.isProtected(one.getModifiers()));
            }
            int fields = 0;
            for (Field field : one.getDeclaredFields()) {
                boolean isStatic = Modifier.isStatic(field.getModifiers());
                hold("static is final: " + field, !isStatic || Modifier.isFinal(field.getModifiers()));
                if (!isStatic) fields++;
            }
            hold("at most twenty fields: " + one, fields <= 20);
            for (Method method : one.getDeclaredMethods()) {
                hold("at most seven parameters: " + method, method.getParameterCount() <= 7);
                boolean isOfFace = one == RunTogether.class && Modifier.isPublic(method.getModifiers());
                hold("a name of the face: " + method, isOfFace || !publicNames.contains(method.getName()));
            }
        }
    }

    private void source() throws Exception {
        Path path = Path.of("src/main/java/RunTogether.java");
        String source = Files.readString(path);
        hold("signs 1 to 127", source.chars().allMatch(c -> c > 0 && c < 128));
        String code = source.replaceAll("(?s)/\\*.*?\\*/", "").replaceAll("//[^\n]*", "");
        for (String forbidden : FORBIDDEN) {
            Matcher found = Pattern.compile(forbidden).matcher(code);
            hold("not in the language: " + forbidden, !found.find());
        }
        Matcher imports = Pattern.compile("import\\s+([\\w.]+)").matcher(code);
        while (imports.find()) {
            hold("an import of the language: " + imports.group(1),
                    Set.of("java.util.ArrayList", "java.util.List", "java.util.Arrays", "java.util.Iterator").contains(imports.group(1)));
        }
        shortMethods(code.split("\n"));
    }

    /** A method begins with a line that is indented by 4 or 8 and ends with its brace at the same depth. */
    private void shortMethods(String[] rows) {
        Map<String, String> bodies = new TreeMap<>();
        for (int from = 0; from < rows.length; from++) {
            Matcher begin = Pattern.compile("^( {4}| {8})(?! )[\\w<>\\[\\] ]*\\b(\\w+)\\([^;]*\\) \\{$").matcher(rows[from]);
            if (!begin.find()) continue;
            int to = from;
            while (to < rows.length && !rows[to].equals(begin.group(1) + "}")) to++;
            hold("at most sixty lines: " + rows[from].trim(), to - from + 1 <= 60);
            String body = String.join("\n", List.of(rows).subList(from + 1, to));
            bodies.merge(begin.group(2), body, (one, other) -> one + "\n" + other);
        }
        hold("methods were found", bodies.size() > 50);
        for (String name : bodies.keySet()) {
            hold("calls go at most eight deep, and there is no recursion: " + name, depth(name, bodies, MOST_DEEP) <= MOST_DEEP);
        }
    }

    /** How deep the calls of a method go, itself counted; methods of one name are taken as one, so it may be less. */
    private static int depth(String name, Map<String, String> bodies, int left) {
        int deepest = 0;
        Matcher call = Pattern.compile("\\b(\\w+)\\(").matcher(bodies.get(name));
        while (left > 0 && call.find()) {
            if (bodies.containsKey(call.group(1))) deepest = Math.max(deepest, depth(call.group(1), bodies, left - 1));
        }
        return left > 0 ? deepest + 1 : MOST_DEEP + 1;
    }
}
