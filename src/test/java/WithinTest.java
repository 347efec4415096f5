import java.util.HashMap;
import java.util.HashSet;
import java.util.Map;
import java.util.Set;

/** Promises 17 to 21: words in words, KEYS and STRANGE ROWS, how many ROWS can be read. */
public final class WithinTest {
    private static final int NONE = RunTogether.NONE, OUTSIDE = RunTogether.OUTSIDE;
    private static final int NOT = RunTogether.NOT, LARGE = RunTogether.LARGE;
    private static final int[] WRONG = {Integer.MIN_VALUE, -1002, -2, Integer.MAX_VALUE};
    private final Due due = new Due();

    public static void main(String[] args) {
        WithinTest test = new WithinTest();
        test.promise17();
        test.promise18();
        test.promise19();
        test.shortestByAllRowsOfWords();
        test.promise20();
        test.promise21();
        test.manyStates();
        test.searchesLeaveNoTrace();
        test.due.close();
    }

    private void within(String words, int... due) {
        RunTogether x = Told.with(8, words);
        for (int what = 0; what < 3; what++) this.due.is("17 within(" + what + ") of " + words, x.within(what), due[what]);
    }

    private void promise17() {
        within("", 0, 0, 0);
        within("a;", 0, 0, 0);
        within("ab;", 0, 0, 0);
        within("aa;", 0, 0, 1);
        within("aba;", 0, 0, 0);
        within("abab;", 0, 0, 1);
        within("a;b;", 0, 0, 0);
        within("a;ab;", 1, 0, 1);
        within("b;ab;", 0, 1, 1);
        within("b;abc;", 0, 0, 1);
        within("abc;a;bc;", 1, 1, 3);
        within("ab;cd;bc;", 0, 0, 1);
        within("ab;ba;", 0, 0, 2);
        within("a;aa;aaa;", 3, 3, 3);
        within("abcdefgh;bcdefgha;", 0, 0, 2);
        within("abcdefgh;cdefghaa;", 0, 0, 0);
        within("a:5/1;ab:6/2;", 1, 0, 1);
        RunTogether x = Told.with(2, "a;ab;");
        for (int i = 0; i < 4; i++) {
            for (int j = 0; j < 4; j++) x.follows(i, j, false);
        }
        due.is("17 kinds aside", x.within(2), 1);
        for (int what : new int[] {-1, 3, Integer.MIN_VALUE, Integer.MAX_VALUE}) {
            due.is("17 within(" + what + ")", x.within(what), OUTSIDE);
        }
    }

    private void shortest(int k, String words, String key, String strange) {
        RunTogether x = Told.with(k, words);
        due.is("18 key(-1) of " + words, x.key(NONE), key == null ? NONE : key.length());
        due.is("19 strange(-1) of " + words, x.strange(NONE), strange == null ? NONE : strange.length());
        for (int i = 0; i < 14; i++) {
            due.is("18 key(" + i + ") of " + words, x.key(i), key == null || i >= key.length() ? NONE : key.charAt(i) - 'a');
            due.is("19 strange(" + i + ") of " + words, x.strange(i),
                    strange == null || i >= strange.length() ? NONE : strange.charAt(i) - 'a');
        }
        for (int i : WRONG) {
            due.is("18 key(" + i + ") of " + words, x.key(i), NONE);
            due.is("19 strange(" + i + ") of " + words, x.strange(i), NONE);
        }
    }

    private void promise18() {
        RunTogether x = new RunTogether();
        for (int i : new int[] {NONE, 0, 5, Integer.MIN_VALUE, Integer.MAX_VALUE}) {
            due.is("18 key(" + i + ") without words", x.key(i), NOT);
            due.is("19 strange(" + i + ") without words", x.strange(i), NOT);
        }
        shortest(2, "a;", "", "b");
        shortest(2, "a;b;", "", null);
        shortest(3, "a;b;", "", "c");
        shortest(2, "aa;", null, "b");
        shortest(2, "ab;", "b", "aa");
        shortest(4, "ab;", "b", "c");
        shortest(2, "a;b;ab;ba;", null, null);
        shortest(3, "ab;bc;cab;", "ab", "aa");
        shortest(8, "abcdefgh;", "h", "aa");
        shortest(2, fullRoom(), "bababb", "babaa");
        Told.tell(x, "ab;");
        due.is("18 kinds aside", x.key(NONE), 1);
        x.follows(0, 0, false);
        due.is("18 kinds aside", x.key(NONE), 1);
        due.is("18 of these words", x.key(0), 1);
        Told.tell(x, "ba;");
        due.is("18 of other words", x.key(0), 0);
        Told.tell(x, "ba;?");
        due.is("18 a fault changes nothing", x.key(0), 0);
        x.letters(2);
        due.is("18 no words any more", x.key(0), NOT);
    }

    /** Sixteen words of eight letters, as many as there can be: aa, then all that four letters can be, then bb. */
    private static String fullRoom() {
        StringBuilder text = new StringBuilder();
        for (int n = 0; n < 16; n++) {
            text.append("aa");
            for (int bit = 3; bit >= 0; bit--) text.append((char) ('a' + (n >> bit & 1)));
            text.append("bb;");
        }
        return text.toString();
    }

    private void promise19() {
        RunTogether x = Told.with(2, "ab;");
        due.is("19 before", x.strange(0), 0);
        Told.tell(x, "a;");
        due.is("19 of other words", x.strange(0), 1);
        due.is("19 of other words", x.strange(1), NONE);
        x.letters(2);
        due.is("19 no words any more", x.strange(NONE), NOT);
        due.is("12 letters: key", Told.with(2, "abbbabbb;b;bb;").key(NONE), 12);
        due.is("13 letters: key", Told.with(2, "abaaaaa;baaaaaa;").key(NONE), NONE);
        due.is("13 letters: no letter of a key", Told.with(2, "abaaaaa;baaaaaa;").key(0), NONE);
        due.is("12 letters: strange", Told.with(2, "aaaa;b;aab;ba;aba;baa;").strange(NONE), 12);
        due.is("13 letters: strange", Told.with(2, "baba;bbabb;ab;bbb;a;bba;").strange(NONE), NONE);
        due.is("13 letters: no letter of it", Told.with(2, "baba;bbabb;ab;bbb;a;bba;").strange(0), NONE);
    }

    /** By the words of the document: all rows of enough WORDS are written out and looked through. */
    private void shortestByAllRowsOfWords() {
        long seed = 5;
        for (int turn = 0; turn < 300; turn++) {
            Set<String> words = new HashSet<>();
            for (int i = 0; i < 3; i++) {
                StringBuilder word = new StringBuilder();
                seed = seed * 6364136223846793005L + 1442695040888963407L;
                int length = 1 + (int) ((seed >>> 40) % 3);
                for (int j = 0; j < length; j++) word.append((char) ('a' + (seed >>> (50 + j) & 1)));
                words.add(word.toString());
            }
            hold(words);
        }
    }

    private static final int FAR = 5;

    private void hold(Set<String> words) {
        Map<String, Boolean> alwaysAtEnd = new HashMap<>();
        lookThrough(words, "", "0", alwaysAtEnd);
        String key = null;
        String strange = null;
        for (int length = 0; length <= FAR; length++) {
            for (int n = 0; n < 1 << length; n++) {
                StringBuilder row = new StringBuilder();
                for (int i = length - 1; i >= 0; i--) row.append((char) ('a' + (n >> i & 1)));
                Boolean atEnd = alwaysAtEnd.get(row.toString());
                if (strange == null && atEnd == null) strange = row.toString();
                if (key == null && Boolean.TRUE.equals(atEnd)) key = row.toString();
            }
        }
        RunTogether x = Told.with(2, String.join(";", words) + ";");
        hold("18 key of " + words, key, x.key(NONE), x.key(0), x.key(1), x.key(2), x.key(3), x.key(4));
        hold("19 strange of " + words, strange, x.strange(NONE), x.strange(0), x.strange(1), x.strange(2), x.strange(3), x.strange(4));
    }

    private void hold(String what, String row, int length, int... letters) {
        if (row == null) {
            due.is(what + " is longer than " + FAR + " or there is none", length == NONE || length > FAR ? 1 : 0, 1);
            return;
        }
        due.is(what + ": length", length, row.length());
        for (int i = 0; i < letters.length; i++) {
            due.is(what + ": letter " + i, letters[i], i < row.length() ? row.charAt(i) - 'a' : NONE);
        }
    }

    /** Ends: a 1 for each letter that ends a WORD, behind a 0 for the place ahead of all. */
    private void lookThrough(Set<String> words, String row, String ends, Map<String, Boolean> alwaysAtEnd) {
        if (row.length() >= FAR + 5) {
            for (int from = 0; from < 3; from++) {
                for (int to = from; to <= from + FAR; to++) {
                    boolean atEnd = to == 0 || ends.charAt(to) == '1';
                    alwaysAtEnd.merge(row.substring(from, to), atEnd, Boolean::logicalAnd);
                }
            }
            return;
        }
        for (String word : words) {
            lookThrough(words, row + word, ends + "0".repeat(word.length() - 1) + "1", alwaysAtEnd);
        }
    }

    private void promise20() {
        RunTogether x = new RunTogether();
        due.is("20 nothing, without words", x.ways(0), 1);
        due.is("20 without words", x.ways(1), 0);
        due.is("20 without words", x.ways(40), 0);
        Told.tell(x, "a;aa;");
        long[] ways = {1, 1};
        for (int n = 1; n <= 40; n++) {
            due.is("20 ways(" + n + ")", x.ways(n), ways[1]);
            ways = new long[] {ways[1], ways[0] + ways[1]};
        }
        for (int n : new int[] {-1, 41, Integer.MIN_VALUE, Integer.MAX_VALUE}) due.is("20 ways(" + n + ")", x.ways(n), OUTSIDE);
        x.follows(0, 0, false);
        due.is("20 kinds aside", x.ways(40), 165580141);
        Told.tell(x, "ab;ba;aab;");
        due.is("20 of 4", x.ways(4), 4);
        due.is("20 of 5", x.ways(5), 4);
        x.letters(8);
        Told.tell(x, "a;b;c;d;e;f;g;h;");
        due.is("20 eight to the 16th", x.ways(16), 281474976710656L);
        due.is("20 eight to the 17th is above", x.ways(17), LARGE);
        due.is("20 eight to the 40th is above", x.ways(40), LARGE);
        Told.tell(x, "aa;ab;ac;ad;ae;af;ag;ah;ba;bb;");
        due.is("20 ten to the 15th is not above", x.ways(30), 1000000000000000L);
        due.is("20 ten to the 16th is", x.ways(32), LARGE);
        due.is("20 no odd number", x.ways(39), 0);
    }

    private void promise21() {
        RunTogether x = new RunTogether();
        due.is("21 nothing, without words", x.rows(0), 1);
        due.is("21 without words", x.rows(1), 0);
        due.is("21 without words", x.rows(20), 0);
        Told.tell(x, "a;aa;");
        for (int n = 0; n <= 20; n++) due.is("21 rows(" + n + ") of a", x.rows(n), 1);
        for (int n : new int[] {-1, 21, Integer.MIN_VALUE, Integer.MAX_VALUE}) due.is("21 rows(" + n + ")", x.rows(n), OUTSIDE);
        Told.tell(x, "a;ab;");
        long[] rows = {1, 1};
        for (int n = 1; n <= 20; n++) {
            due.is("21 rows(" + n + ") of a, ab", x.rows(n), rows[1]);
            rows = new long[] {rows[1], rows[0] + rows[1]};
        }
        x.follows(0, 0, false);
        due.is("21 kinds aside", x.rows(4), 5);
        Told.tell(x, "ab;ba;aba;");
        due.is("21 ab ba and ba ab and so on", x.rows(4), 4);
        due.is("21 aba ab, ab aba, aba ba, ba aba: abaab, ababa, baaba", x.rows(5), 3);
        x.letters(8);
        Told.tell(x, "a;b;c;d;e;f;g;h;");
        due.is("21 eight to the 16th", x.rows(16), 281474976710656L);
        due.is("21 eight to the 17th is above", x.rows(17), LARGE);
        due.is("21 eight to the 20th is above", x.rows(20), LARGE);
        Told.tell(x, "a;b;c;d;e;f;");
        due.is("21 six to the 19th", x.rows(19), 609359740010496L);
        due.is("21 six to the 20th is above", x.rows(20), LARGE);
        x.letters(2);
        Told.tell(x, fullRoom());
        due.is("21 two words of sixteen", x.rows(16), 256);
        due.is("21 not half a word", x.rows(20), 0);
    }

    /** One object searches the states of many words in turn, and answers as a new object does. */
    private void searchesLeaveNoTrace() {
        long seed = 11;
        RunTogether x = new RunTogether();
        for (int turn = 0; turn < 80; turn++) {
            StringBuilder text = new StringBuilder();
            for (int w = 0; w < 16; w++) {
                seed = seed * 6364136223846793005L + 1442695040888963407L;
                for (int bit = 3; bit >= 0; bit--) text.append((char) ('a' + (w >> bit & 1)));
                for (int bit = 0; bit < (seed >>> 40) % 5; bit++) text.append((char) ('a' + (seed >>> (44 + bit) & 1)));
                text.append(';');
            }
            RunTogether y = Told.with(2, text.toString());
            Told.tell(x, text.toString());
            long rows = y.rows(18);
            due.is("21 rows(18) of " + text, x.rows(18), rows);
            due.is("21 rows(18) again", x.rows(18), rows);
            due.is("18 key(-1) of " + text, x.key(NONE), y.key(NONE));
            due.is("19 strange(-1) of " + text, x.strange(NONE), y.strange(NONE));
            due.is("21 rows(18) behind them", x.rows(18), rows);
        }
    }

    /** Words with as many states of knowing as a long search could find: 500 to 900 of them, all below the bound. */
    private void manyStates() {
        String[] sets = {
            "aaab;abbbbbbb;babbbabb;bbbabbba;bbbbbbba;bbabbbb;babbbbbb;bbbbbbab;a;abbbbb;aaaabb;abbbab;aabbb;bbbbbabb;bbbbbbbb;bbbbabbb;",
            "bbbbbaba;abaaabab;babbbbaa;baaaaabb;bbabbaaa;abbbbba;aabaaaa;abababb;bababbab;bbaaaaba;baabbbbb;aaababaa;aaaabbba;bbbaabba;abbabbb;aab;",
            "bbbbbaab;aaabbba;baaabba;ababbaa;bbaaabab;aaabaaaa;aaaaaaab;baabbaaa;babaabb;abaaba;bbabbb;abbababb;aabbbb;bbbabbab;abbbabaa;aabababa;",
            "bbabbbbb;babb;abbb;bbbbbbcb;bbbbabbb;bbbbc;ab;bbbbbcbb;cbbbbbab;a;bcbbbbba;bbcbbb;bbbcbbbb;bbbbbbb;bbbabbbb;abba;"};
        for (String words : sets) {
            RunTogether x = Told.with(3, words);
            Plain m = new Plain();
            m.letters(3);
            for (int at = 0; at < words.length(); at++) m.feed(1, words.charAt(at));
            m.read();
            for (int n = 0; n <= 20; n += 4) due.is("21 rows(" + n + ") of " + words, x.rows(n), m.rows(n));
            for (int i = NONE; i < 12; i++) {
                due.is("18 key(" + i + ") of " + words, x.key(i), m.key(i));
                due.is("19 strange(" + i + ") of " + words, x.strange(i), m.strange(i));
            }
        }
    }
}
