import java.io.IOException;
import java.nio.file.Files;
import java.nio.file.Path;
import java.util.ArrayList;
import java.util.LinkedHashMap;
import java.util.List;
import java.util.Map;
import java.util.regex.Matcher;
import java.util.regex.Pattern;
import java.util.stream.Stream;

/**
 * Every sentence of the document's terms and promises has a test of its own: the words that the tests quote
 * with says(..) stand in the document, and together they leave none of its words out.
 */
public final class SentencesTest {
    private static final Path DOCUMENT = Path.of("../shared/DOC.md");
    private static final Path TESTS = Path.of("src/test/java");
    private static final Pattern SAYS = Pattern.compile("due\\.says\\(\"([^\"]*)\",\\s*\"([^\"]*)\"\\)");
    /** What names no case that a call could show. */
    private static final String[] NOT_TO_BE_TESTED = {
        "Words in capitals are told where they come first.",
        "All numbers are whole; / cuts towards 0; fractions are in least terms, the lower number above 0.",
        "======== 1 ", "======== 2 ", "======== 3 ", "======== 4 ", "======== 5 ", "```text", "```"};
    private final Due due = new Due();
    private final Map<String, String> sections = new LinkedHashMap<>();
    private final Map<String, boolean[]> quoted = new LinkedHashMap<>();

    public static void main(String[] args) throws IOException {
        SentencesTest test = new SentencesTest();
        test.readDocument();
        test.quoteTests();
        test.seekUnquoted();
        test.due.close();
    }

    private void readDocument() throws IOException {
        for (String part : Files.readString(DOCUMENT).split("(?m)^## ")) {
            int titleEnd = part.indexOf('\n');
            if (titleEnd < 0) continue;
            String title = part.substring(0, titleEnd).replaceAll(":.*", "").trim();
            if (!title.equals("Terms") && !title.equals("What it is") && !title.startsWith("Promise ")) continue;
            String text = part.substring(titleEnd + 1);
            if (title.equals("Terms")) text = text.replaceAll("(?m)^Ahead of the calls .*$", "");
            if (title.equals("What it is")) text = text.replaceAll("(?m)^Words run together: .*$", "");
            if (title.startsWith("Promise ")) text = text.replaceAll("^\\s*`[^`]*`:", "");
            text = text.replaceAll("\\s+", " ").trim();
            sections.put(title, text);
            quoted.put(title, new boolean[text.length()]);
        }
        due.is("sections of the document", sections.size(), 31);
    }

    private void quoteTests() throws IOException {
        for (String words : NOT_TO_BE_TESTED) quote("Terms", words);
        List<Path> files = new ArrayList<>();
        try (Stream<Path> all = Files.list(TESTS)) {
            all.filter(path -> path.toString().endsWith("Test.java")).sorted().forEach(files::add);
        }
        int says = 0;
        for (Path file : files) {
            Matcher found = SAYS.matcher(Files.readString(file));
            for (; found.find(); says++) {
                due.holds(file.getFileName() + " quotes what does not stand in " + found.group(1) + ": " + found.group(2),
                        quote(found.group(1), found.group(2)));
            }
        }
        due.holds("the tests quote the document", says > 60);
    }

    private boolean quote(String section, String words) {
        String text = sections.get(section);
        if (text == null) return false;
        boolean[] marks = quoted.get(section);
        int at = text.indexOf(words);
        for (int from = at; from >= 0; from = text.indexOf(words, from + 1)) {
            for (int i = from; i < from + words.length(); i++) marks[i] = true;
        }
        return at >= 0;
    }

    private void seekUnquoted() {
        for (Map.Entry<String, String> section : sections.entrySet()) {
            String text = section.getValue();
            boolean[] marks = quoted.get(section.getKey());
            for (int from = 0; from < text.length(); from++) {
                if (marks[from] || !Character.isLetterOrDigit(text.charAt(from))) continue;
                int to = from;
                while (to < text.length() && !marks[to]) to++;
                due.holds("no test quotes " + section.getKey() + ": [" + text.substring(from, to) + "]", false);
                from = to;
            }
            due.holds("a section without words: " + section.getKey(), !text.isEmpty());
        }
    }
}
