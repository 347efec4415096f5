/** The edges that the document names for promises 24 to 29, sentence by sentence. */
public final class LinesEdgesTest {
    private static final int NONE = RunTogether.NONE, UNKNOWN = RunTogether.UNKNOWN, OUTSIDE = RunTogether.OUTSIDE;
    private static final int NOT = RunTogether.NOT, FULL = RunTogether.FULL;
    private static final int LEAST = Integer.MIN_VALUE, MOST = Integer.MAX_VALUE;
    private final Due due = new Due();

    public static void main(String[] args) {
        LinesEdgesTest test = new LinesEdgesTest();
        test.linesOf1To24Letters();
        test.line();
        test.lineRefused();
        test.drop();
        test.howLinesAreRead();
        test.theFirst();
        test.totals();
        test.uses();
        test.usesUnknown();
        test.learntInRounds();
        test.learn();
        test.learnAtTheMost();
        test.learnOutside();
        test.newWord();
        test.newWordIsNoWord();
        test.newWordOfKind0();
        test.newWordMakesLess();
        test.firstRow();
        test.fresh();
        test.freshRefused();
        test.due.close();
    }

    private static RunTogether read(int k, String words, String... lines) {
        RunTogether x = Told.with(k, words);
        Told.lines(x, lines);
        return x;
    }

    private void linesOf1To24Letters() {
        due.says("Terms", "LINES (4 at most) are ROWS of 1 to 24 letters.");
        for (int length = 0; length <= 48; length++) {
            RunTogether x = new RunTogether();
            for (int i = 0; i < length; i++) x.letter(i % 2);
            boolean isTaken = length >= 1 && length <= 24;
            due.is("line() of " + length, x.line(), isTaken ? 1 : OUTSIDE);
            due.is("count(4) behind it", x.count(4), isTaken ? 1 : 0);
            due.is("the draft behind it", x.count(2), isTaken ? 0 : length);
            due.is("totals() behind it", x.totals(), isTaken ? 5 * length : 0);
        }
    }

    private void line() {
        due.says("Promise 24", "THE DRAFT (it is empty then) is a LINE: how many there are.");
        RunTogether x = new RunTogether();
        for (int n = 1; n <= 4; n++) {
            for (int i = 0; i < n; i++) x.letter(1);
            due.is("line()", x.line(), n);
            due.is("the draft is empty", x.count(2), 0);
            due.is("the draft is empty", x.readings(), 1);
        }
        due.is("four lines", x.count(4), 4);
        due.is("each as it was written", x.totals(), 5 * (1 + 2 + 3 + 4));
        x = read(2, "ab;", "ab", "ab");
        due.is("two like ones are two", x.totals(), 2);
    }

    private void lineRefused() {
        due.says("Promise 24", "OUTSIDE (its length), FULL.");
        RunTogether x = read(2, "a;b;", "a", "b", "ab", "ba");
        due.is("no letters, four lines", x.line(), OUTSIDE);
        for (int length = 1; length <= 48; length++) {
            x.letter(0);
            due.is("line() of " + length + ", a fifth one", x.line(), length <= 24 ? FULL : OUTSIDE);
        }
        due.is("the draft stays", x.count(2), 48);
        due.is("the lines stay", x.totals(), 6);
        due.is("the lines stay", x.uses(0), 3);
        due.is("drop()", x.drop(), 4);
        due.is("48 letters still", x.line(), OUTSIDE);
        x.clear();
        x.letter(0);
        due.is("room again", x.line(), 1);
    }

    private void drop() {
        due.says("Promise 25", "No LINES any more: how many there were.");
        RunTogether x = new RunTogether();
        due.is("none", x.drop(), 0);
        for (int n = 1; n <= 4; n++) {
            for (int i = 0; i < n; i++) {
                x.letter(0);
                x.line();
            }
            x.letter(1);
            due.is("drop()", x.drop(), n);
            due.is("count(4)", x.count(4), 0);
            due.is("totals()", x.totals(), 0);
            due.is("uses(NONE)", x.uses(NONE), 0);
            due.is("the draft stays", x.clear(), 1);
            due.is("none any more", x.drop(), 0);
        }
    }

    private void howLinesAreRead() {
        due.says("Terms", "A LINE is READ as WORDS, each KIND FOLLOWING that of the WORD ahead, whatever stands between, and as strange letters between, ahead of, behind them (at their price; no other mistakes): at the least of COSTS and prices;");
        due.is("words alone", read(3, "ab:2;c:1;", "abc").totals(), 3);
        due.is("strange ahead", read(3, "ab:2;", "cab").totals(), 7);
        due.is("strange behind", read(3, "ab:2;", "abc").totals(), 7);
        due.is("strange between", read(3, "ab:2;", "abcab").totals(), 9);
        due.is("not within a word", read(3, "ab:2;", "acb").totals(), 15);
        due.is("strange alone", read(3, "ab:2;", "ccc").totals(), 15);
        RunTogether x = read(3, "ab:2;", "abb", "a", "b", "cb");
        due.is("no other mistakes", x.totals(), 7 + 5 + 5 + 10);
        x.price(0, 0);
        x.price(1, 0);
        due.is("no other mistakes, even for nothing", x.totals(), 7 + 5 + 5 + 10);
        x = read(3, "a:1/0;b:1/1;c:1/2;", "ab", "ba");
        due.is("all follow", x.totals(), 4);
        x.follows(0, 1, false);
        due.is("b not behind a", x.totals(), 1 + 5 + 2);
        Told.lines(x, "acb");
        due.is("c stands between, and is a word", x.totals(), 3);
        x.follows(0, 2, false);
        x.follows(2, 2, false);
        due.is("c may not stand behind a: one of them is strange", x.totals(), 1 + 1 + 5);
        Told.tell(x, "a:1/0;b:1/1;");
        due.is("what stands between is strange: a is still the word ahead", x.totals(), 1 + 5 + 5);
        Told.lines(x, "a" + "c".repeat(22) + "b");
        due.is("however far", x.totals(), 1 + 22 * 5 + 5);
        Told.lines(x, "cccb");
        due.is("nothing is ahead of the first word", x.totals(), 3 * 5 + 1);
    }

    private void usesAre(String what, RunTogether x, int strange, int... dues) {
        for (int w = 0; w < dues.length; w++) due.is(what + ": uses(" + w + ")", x.uses(w), dues[w]);
        due.is(what + ": uses(NONE)", x.uses(NONE), strange);
    }

    private void theFirst() {
        due.says("Terms", "THE FIRST of these: place by place a WORD ahead of a strange letter, of WORDS the lesser number.");
        usesAre("as dear as a strange letter", read(2, "a:5;", "a"), 0, 1);
        usesAre("dearer by one", read(2, "a:6;", "a"), 1, 0);
        usesAre("cheaper by one", read(2, "a:4;", "a"), 0, 1);
        usesAre("the lesser number", read(2, "a:5;aa:10;", "aa"), 0, 2, 0);
        usesAre("the lesser number", read(2, "aa:10;a:5;", "aa"), 0, 1, 0);
        RunTogether x = read(2, "b:3/1;a:3/0;", "ab");
        x.follows(0, 1, false);
        usesAre("a and a strange one, or a strange one and b", x, 1, 0, 1);
        x = read(2, "b:0;a:5;ab:5;", "ab");
        usesAre("a strange one and b, a and b, ab: a word first, the lesser of these", x, 0, 1, 1, 0);
        Told.tell(x, "b:0;ab:5;a:5;");
        usesAre("told the other way", x, 0, 0, 1, 0);
        x = read(2, "a:0;b:0;ab:0;ba:0;", "abab");
        x.price(2, 0);
        usesAre("all for nothing", x, 0, 2, 2, 0, 0);
    }

    private void totals() {
        due.says("Terms", "TOTAL: of all LINES.");
        due.says("Promise 26", "TOTAL.");
        due.is("no lines, no words", new RunTogether().totals(), 0);
        due.is("no lines", Told.with(2, "a;").totals(), 0);
        due.is("no words", read(2, "", "a", "ab", "aba", "abab").totals(), 50);
        due.is("one line", read(2, "a:7;", "a").totals(), 5);
        due.is("four lines", read(2, "a:2;b:3;", "a", "b", "ab", "aab").totals(), 2 + 3 + 5 + 7);
        RunTogether x = read(2, "a:99;b:99;", "a".repeat(24), "b".repeat(24), "a".repeat(24), "b".repeat(24));
        due.is("strange ones are cheaper", x.totals(), 96 * 5);
        x.price(2, 0);
        due.is("for nothing", x.totals(), 0);
        x.price(2, 99);
        due.is("the most there can be", x.totals(), 96 * 99);
    }

    private void uses() {
        due.says("Terms", "USES of a WORD: how often it comes in THE FIRST of all LINES.");
        due.says("Promise 27", "USES of a WORD; w = NONE: of strange letters.");
        due.is("no lines, no words", new RunTogether().uses(NONE), 0);
        usesAre("no lines", Told.with(2, "a;b;"), 0, 0, 0);
        usesAre("no words", read(2, "", "ab", "a"), 3);
        usesAre("none of them", read(2, "aaa;", "ab", "a"), 3, 0);
        usesAre("of all lines", read(3, "a;ab;", "aab", "ab", "c", "aa"), 1, 3, 2);
        String line = "ab".repeat(12);
        usesAre("the most of a word", read(2, "a:0;b:0;", "a".repeat(24), "a".repeat(24), "a".repeat(24), "a".repeat(24)), 0, 96, 0);
        usesAre("the most of strange letters", read(2, "", line, line, line, line), 96);
        RunTogether x = read(2, Told.SIXTEEN, line, line, line, line);
        due.is("the last of sixteen", x.uses(15), 0);
        due.is("ab of sixteen", x.uses(3), 0);
        due.is("aba and bab, of like ones the first", x.uses(8) + x.uses(11), 32);
    }

    private void usesUnknown() {
        due.says("Promise 27", "UNKNOWN.");
        for (int w : new int[] {0, 1, -2, LEAST, MOST}) due.is("uses(" + w + ") without words", new RunTogether().uses(w), UNKNOWN);
        RunTogether x = read(2, "a;b;", "ab");
        for (int w : new int[] {2, 16, -2, LEAST, MOST}) due.is("uses(" + w + ")", x.uses(w), UNKNOWN);
        due.is("the last one", x.uses(1), 1);
        Told.tell(x, Told.SIXTEEN);
        due.is("uses(16) of sixteen", x.uses(16), UNKNOWN);
    }

    private void costs(String what, RunTogether x, int... dues) {
        for (int w = 0; w < dues.length; w++) due.is(what + ": cost of " + w, x.word(w, 0), dues[w]);
    }

    private void learntInRounds() {
        due.says("Terms", "LEARNT is in rounds: COST of each WORD becomes 1 and how many WORDS have more USES (all by what was ahead of the round); until a round changes none.");
        RunTogether x = read(8, "a:0;b:0;c:0;d:0;e:0;f:0;g:0;h:0;", "abcdefgh", "abcdefg", "abcdef", "abcde");
        due.is("a to e four times, f three times, g twice, h once", x.learn(1), NONE);
        costs("a to e have none ahead", x, 1, 1, 1, 1, 1, 6, 7, 8);
        due.is("nothing in which more are strange: f, g, h are dearer than 5", x.uses(NONE), 6);
        due.is("f, g, h have no uses now", x.learn(1), NONE);
        costs("five have more", x, 1, 1, 1, 1, 1, 6, 6, 6);
        due.is("no more", x.learn(1), 0);
        x = read(2, Told.SIXTEEN, "b");
        due.is("one of sixteen is used", x.learn(20), 1);
        costs("one has more than all others", x, 2, 1, 2, 2, 2, 2, 2, 2, 2, 2, 2, 2, 2, 2, 2, 2);
        x = Told.with(2, "a:0;b:99;ab:1;");
        due.is("no lines: no uses", x.learn(20), 1);
        costs("none has more", x, 1, 1, 1);
    }

    private void learn() {
        due.says("Promise 28", "LEARNT in up to n rounds (1 .. 20): how many changed some COST; NONE: the n-th did, too.");
        for (int n : new int[] {1, 2, 19, 20}) {
            due.is("learn(" + n + ") without words", new RunTogether().learn(n), 0);
            due.is("learn(" + n + ") where nothing changes", read(2, "a:1;b:2;", "aab").learn(n), 0);
            due.is("learn(" + n + ") where one round changes", Told.with(2, "a:7;").learn(n), n == 1 ? NONE : 1);
        }
        RunTogether x = Told.with(2, "a:7;");
        due.is("the first round did", x.learn(1), NONE);
        due.is("its change stands", x.word(0, 0), 1);
        due.is("the next one does not", x.learn(1), 0);
    }

    /** Words and lines whose COSTS settle in 19 rounds, in 20 rounds, never: found by a search, held by the plain model. */
    private void learnAtTheMost() {
        String nineteen = "bbab:8;abb:13;aab:9;b:6;abaa:2;aaa;a:2;aaabb:13;abbb:11;baa:6;baaba:3;";
        String[] itsLines = {"bbbaabbaababbbabababbaab", "babbbaaabb", "abbaaaaaa", "aabaababbbbba"};
        due.is("19 rounds, up to 20", read(2, nineteen, itsLines).learn(20), 19);
        RunTogether x = read(2, nineteen, itsLines);
        due.is("19 rounds, up to 19", x.learn(19), NONE);
        due.is("all of them were made", x.learn(1), 0);
        x = read(2, nineteen, itsLines);
        due.is("19 rounds, up to 18", x.learn(18), NONE);
        due.is("one was left", x.learn(20), 1);
        String twenty = "bba:5;a:14;abbb:6;b:0;bbba;bbaa:0;baab:0;ba:8;abbbb:13;baa:14;";
        x = read(2, twenty, "bababaaaaababbbbbbabbabb", "abbbabbaaababbaabaabaabb", "bbababbbbaaabaaaaababbba", "bbaaabbaaabbbbbababababa");
        due.is("20 rounds, up to 20", x.learn(20), NONE);
        due.is("all of them were made", x.learn(20), 0);
        x = read(2, "a:0;b;bab:2;", "bbaabab");
        for (int times = 0; times < 5; times++) due.is("it never settles", x.learn(20), NONE);
    }

    private void learnOutside() {
        due.says("Promise 28", "OUTSIDE.");
        RunTogether x = Told.with(2, "a:7;");
        for (int n : new int[] {0, 21, -1, LEAST, MOST}) due.is("learn(" + n + ")", x.learn(n), OUTSIDE);
        due.is("nothing was learnt", x.word(0, 0), 7);
    }

    private void fresh(RunTogether x, int cost, int less, String row) {
        due.is("fresh(" + cost + ", 0)", x.fresh(cost, 0), row == null ? NONE : less);
        due.is("fresh(" + cost + ", 1)", x.fresh(cost, 1), row == null ? NONE : row.length());
        for (int i = 0; i < 5; i++) {
            int letter = row == null || i >= row.length() ? NONE : row.charAt(i) - 'a';
            due.is("fresh(" + cost + ", " + (2 + i) + ")", x.fresh(cost, 2 + i), letter);
        }
    }

    private void newWord() {
        due.says("Terms", "THE NEW WORD at a COST, of KIND 0: of ROWS of 2 to 5 letters that come in a LINE and are no WORDS that by which TOTAL would be less by most");
        fresh(new RunTogether(), 0, 0, null);
        fresh(read(8, "", "a"), 0, 0, null);
        fresh(read(8, "", "a", "b", "c", "d"), 0, 0, null);
        fresh(read(8, "", "hg"), 0, 10, "hg");
        fresh(read(8, "", "hgf"), 0, 15, "hgf");
        fresh(read(8, "", "hgfe"), 0, 20, "hgfe");
        fresh(read(8, "", "hgfed"), 0, 25, "hgfed");
        fresh(read(8, "", "hgfedc"), 0, 25, "gfedc");
        fresh(read(8, "", "hg", "a", "hg"), 0, 20, "hg");
        fresh(read(2, "", "a".repeat(24)), 0, 120, "aa");
        fresh(read(2, "", "a".repeat(24)), 1, 120 - 6, "aaaa");
        fresh(read(8, "", "a".repeat(24), "b".repeat(24), "c".repeat(24), "h".repeat(20) + "hgfh"), 0, 120, "aa");
    }

    private void newWordIsNoWord() {
        due.says("Terms", "and are no WORDS");
        fresh(read(2, "ab:99;", "ab"), 0, 0, null);
        fresh(read(2, "ab:99;", "aba"), 0, 15, "aba");
        fresh(read(2, "aba:99;", "aba"), 0, 10, "ab");
        fresh(read(2, "aba:99;ab:99;", "aba"), 0, 10, "ba");
        fresh(read(2, "aba:99;ab:99;ba:99;", "aba"), 0, 0, null);
        fresh(read(8, "abcde:99;", "abcde"), 0, 20, "abcd");
        fresh(read(8, "abcdef:99;", "abcdef"), 0, 25, "abcde");
    }

    private void newWordOfKind0() {
        due.says("Terms", "THE NEW WORD at a COST, of KIND 0:");
        RunTogether x = read(3, "c:0/1;", "cabcab");
        fresh(x, 0, 20, "ab");
        x.follows(1, 0, false);
        fresh(x, 0, 20, "cab");
        x.follows(0, 0, false);
        fresh(x, 0, 15, "abcab");
        x = read(2, "", "abab");
        fresh(x, 0, 20, "ab");
        x.follows(0, 0, false);
        fresh(x, 0, 20, "abab");
    }

    private void newWordMakesLess() {
        due.says("Terms", "that by which TOTAL would be less by most (NONE: none makes it less);");
        fresh(read(2, "", "ba"), 9, 1, "ba");
        fresh(read(2, "", "ba"), 10, 0, null);
        fresh(read(2, "", "ba"), 11, 0, null);
        fresh(read(2, "a:1;b:1;", "ba"), 1, 1, "ba");
        fresh(read(2, "a:1;b:1;", "ba"), 2, 0, null);
        fresh(read(2, "a:0;b:0;", "ba"), 0, 0, null);
        RunTogether x = read(2, "", "ba");
        x.price(2, 99);
        fresh(x, 0, 198, "ba");
        fresh(x, 99, 99, "ba");
        x.price(2, 0);
        fresh(x, 0, 0, null);
        fresh(read(3, "abc:0;", "abcab"), 0, 10, "ab");
    }

    private void firstRow() {
        due.says("Terms", "of like ones the first ROW.");
        due.says("Terms", "ROWS are rows of letters; held against one another letter by letter, the lesser ahead, one that is at an end ahead.");
        fresh(read(2, "", "ba", "ab"), 0, 10, "ab");
        fresh(read(2, "", "ba", "ab"), 9, 1, "ab");
        fresh(read(3, "", "cb", "ca", "bc"), 0, 10, "bc");
        fresh(read(3, "c:0;", "abc"), 0, 10, "ab");
        fresh(read(2, "a:0;", "aab"), 0, 5, "aab");
        fresh(read(8, "", "hgfedc"), 0, 25, "gfedc");
        fresh(read(8, "", "abcdefgh"), 0, 25, "abcde");
        fresh(read(8, "", "bcdefgha"), 0, 25, "bcdef");
        fresh(read(8, "", "ahhhh", "ahhhg"), 0, 40, "ahhh");
    }

    private void fresh() {
        due.says("Promise 29", "THE NEW WORD at a COST (0 .. 99): what = 0 by how much TOTAL would be less, 1 how many letters, 2 and i its letter i (NONE); NONE: there is none.");
        RunTogether x = read(8, "", "hgfed");
        int[] dues = {25, 5, 7, 6, 5, 4, 3};
        for (int what = 0; what <= 6; what++) due.is("fresh(0, " + what + ")", x.fresh(0, what), dues[what]);
        x.price(2, 40);
        due.is("at the greatest cost", x.fresh(99, 0), 200 - 99);
        due.is("asking makes no word", x.count(1), 0);
        due.is("asking makes TOTAL no less", x.totals(), 200);
        x = read(8, "", "hg");
        int[] two = {10, 2, 7, 6, NONE, NONE, NONE};
        for (int what = 0; what <= 6; what++) due.is("fresh(0, " + what + ")", x.fresh(0, what), two[what]);
        for (int what = 0; what <= 6; what++) due.is("fresh(10, " + what + ")", x.fresh(10, what), NONE);
        for (int what = 0; what <= 6; what++) due.is("without lines", Told.with(2, "a;").fresh(0, what), NONE);
    }

    private void freshRefused() {
        due.says("Promise 29", "OUTSIDE (what 0 .. 6), NOT: there are 16 WORDS.");
        RunTogether x = read(2, "", "ab");
        for (int cost : new int[] {-1, 100, LEAST, MOST}) {
            for (int what : new int[] {0, 6, -1, 7}) due.is("fresh(" + cost + ", " + what + ")", x.fresh(cost, what), OUTSIDE);
        }
        for (int what : new int[] {-1, 7, LEAST, MOST}) due.is("fresh(0, " + what + ")", x.fresh(0, what), OUTSIDE);
        Told.tell(x, Told.SIXTEEN);
        for (int what = 0; what <= 6; what++) {
            due.is("sixteen words: fresh(0, " + what + ")", x.fresh(0, what), NOT);
            due.is("sixteen words: fresh(99, " + what + ")", x.fresh(99, what), NOT);
        }
        due.is("sixteen words: fresh(100, 0)", x.fresh(100, 0), OUTSIDE);
        due.is("sixteen words: fresh(0, 7)", x.fresh(0, 7), OUTSIDE);
        due.is("sixteen words: fresh(-1, -1)", x.fresh(-1, -1), OUTSIDE);
        Told.tell(x, Told.SIXTEEN.substring(0, Told.SIXTEEN.length() - "aaab;".length()));
        Told.lines(x, "aaabaaab");
        fresh(x, 0, 3, "aaab");
    }
}
