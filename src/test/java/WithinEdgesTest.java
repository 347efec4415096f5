/** The edges that the document names for promises 17 to 21, sentence by sentence. */
public final class WithinEdgesTest {
    private static final int NONE = RunTogether.NONE, OUTSIDE = RunTogether.OUTSIDE;
    private static final int NOT = RunTogether.NOT, LARGE = RunTogether.LARGE;
    private static final int LEAST = Integer.MIN_VALUE, MOST = Integer.MAX_VALUE;
    private static final String ALL_A = "a;aa;aaa;aaaa;aaaaa;aaaaaa;aaaaaaa;aaaaaaaa;";
    private final Due due = new Due();

    public static void main(String[] args) {
        WithinEdgesTest test = new WithinEdgesTest();
        test.beginnersAndEnders();
        test.hides();
        test.within();
        test.withinOutside();
        test.keys();
        test.strangeRows();
        test.twelveLetters();
        test.key();
        test.keyNot();
        test.strange();
        test.strangeNot();
        test.kindsAside();
        test.ways();
        test.waysRefused();
        test.rows();
        test.rowsRefused();
        test.due.close();
    }

    private void within(String words, int... dues) {
        RunTogether x = Told.with(8, words);
        for (int what = 0; what < 3; what++) due.is("within(" + what + ") of " + words, x.within(what), dues[what]);
    }

    private void beginnersAndEnders() {
        due.says("Terms", "BEGINNERS: pairs (v, w) so that v begins w, and is another one; ENDERS: v ends w, likewise.");
        within("a;", 0, 0, 0);
        within("abcdefgh;", 0, 0, 0);
        within("a;b;", 0, 0, 0);
        within("a;ab;", 1, 0, 1);
        within("ab;a;", 1, 0, 1);
        within("b;ab;", 0, 1, 1);
        within("a;aa;", 1, 1, 2);
        within("aaaaaaa;aaaaaaab;", 1, 0, 1);
        within("aaaaaaa;baaaaaaa;", 0, 1, 1);
        within("b;abc;", 0, 0, 1);
        within(ALL_A, 28, 28, 8);
        within(ALL_A + ALL_A.replace('a', 'b'), 56, 56, 16);
    }

    private void hides() {
        due.says("Terms", "A WORD HIDES, if it comes in some two WORDS one behind the other (one twice, too) somewhere else than as the whole first or the whole second one of them.");
        within("ab;", 0, 0, 0);
        within("aba;", 0, 0, 0);
        within("aa;", 0, 0, 1);
        within("abab;", 0, 0, 1);
        within("aaaaaaaa;", 0, 0, 1);
        within("a;b;ab;", 1, 1, 3);
        within("ab;abab;", 1, 1, 2);
        within("a;b;aba;", 1, 1, 2);
        within("abc;ca;", 0, 0, 1);
        within("abcdefgh;habcdefg;", 0, 0, 2);
        within("abcdefgh;ghabcdef;ha;", 0, 0, 3);
        within("abcdefgh;hg;", 0, 0, 0);
        within("aab;aba;", 0, 0, 2);
        within("ab;cd;bc;da;", 0, 0, 4);
    }

    private void within() {
        due.says("Promise 17", "How many: what = 0 BEGINNERS, 1 ENDERS, 2 WORDS that HIDE.");
        RunTogether x = new RunTogether();
        for (int what = 0; what < 3; what++) due.is("without words", x.within(what), 0);
        within("ab;abc;abcd;", 3, 0, 2);
        within("cd;bcd;abcd;", 0, 3, 2);
        within(Told.SIXTEEN, 26, 26, 16);
    }

    private void withinOutside() {
        due.says("Promise 17", "OUTSIDE.");
        for (int what : new int[] {-1, 3, LEAST, MOST}) {
            due.is("within(" + what + ")", Told.with(2, "a;ab;").within(what), OUTSIDE);
            due.is("within(" + what + ") without words", new RunTogether().within(what), OUTSIDE);
        }
    }

    private void shortest(int k, String words, String key, String strange) {
        RunTogether x = Told.with(k, words);
        due.is("key(-1) of " + words, x.key(NONE), key == null ? NONE : key.length());
        due.is("strange(-1) of " + words, x.strange(NONE), strange == null ? NONE : strange.length());
        for (int i : new int[] {0, 1, 2, 3, 4, 5, 6, 7, 8, 9, 10, 11, 12, 13, -2, LEAST, MOST}) {
            boolean isOfKey = key != null && i >= 0 && i < key.length();
            boolean isOfStrange = strange != null && i >= 0 && i < strange.length();
            due.is("key(" + i + ") of " + words, x.key(i), isOfKey ? key.charAt(i) - 'a' : NONE);
            due.is("strange(" + i + ") of " + words, x.strange(i), isOfStrange ? strange.charAt(i) - 'a' : NONE);
        }
    }

    private void keys() {
        due.says("Terms", "Reading on from an unknown place within WORDS run together, one may be at a WORD's end or somewhere in a WORD. A KEY is a ROW that comes so, behind which one is surely at an end of a WORD.");
        shortest(2, "ab;", "b", "aa");
        shortest(2, "a;ab;", "b", "bb");
        shortest(2, "b;ab;", "b", "aa");
        shortest(3, "bc;", "c", "a");
        shortest(2, "ab;ba;", "aab", "aaa");
        shortest(2, "aa;", null, "b");
        shortest(2, "aaaaaaaa;", null, "b");
        shortest(2, "a;aa;", null, "b");
        shortest(8, "abcdefgh;", "h", "aa");
        shortest(2, "a;", "", "b");
        shortest(8, "a;b;c;d;e;f;g;h;", "", null);
    }

    private void strangeRows() {
        due.says("Terms", "STRANGE is a ROW that comes in no row of WORDS.");
        shortest(2, "a;b;", "", null);
        shortest(3, "a;b;", "", "c");
        shortest(2, "aa;bb;", "abb", "aba");
        shortest(2, "a;b;ab;", "b", null);
        shortest(2, Told.SIXTEEN, null, null);
        shortest(8, "ab;cd;", "b", "e");
    }

    private void twelveLetters() {
        due.says("Terms", "THE SHORTEST of both: of least length, of these the first; 12 letters at most.");
        shortest(3, "ca;cb;", "a", "aa");
        shortest(3, "ba;ca;", "a", "aa");
        shortest(3, "cb;ca;", "a", "aa");
        RunTogether x = Told.with(2, "abbbabbb;b;bb;");
        String key = "bbbbabbbabbb";
        due.is("a key of 12 letters", x.key(NONE), 12);
        for (int i = 0; i < 12; i++) due.is("its letter " + i, x.key(i), key.charAt(i) - 'a');
        due.is("no letter 12", x.key(12), NONE);
        x = Told.with(2, "abaaaaa;baaaaaa;");
        for (int i = NONE; i < 14; i++) due.is("a key of 13 letters", x.key(i), NONE);
        x = Told.with(2, "aaaa;b;aab;ba;aba;baa;");
        String strange = "baaabaaababb";
        due.is("strange, of 12 letters", x.strange(NONE), 12);
        for (int i = 0; i < 12; i++) due.is("its letter " + i, x.strange(i), strange.charAt(i) - 'a');
        due.is("no letter 12", x.strange(12), NONE);
        x = Told.with(2, "baba;bbabb;ab;bbb;a;bba;");
        for (int i = NONE; i < 14; i++) due.is("strange, of 13 letters", x.strange(i), NONE);
    }

    private void key() {
        due.says("Promise 18", "THE SHORTEST KEY: i = NONE its length (NONE: there is none so short), else its letter i; NONE.");
        RunTogether x = Told.with(3, "ab;bc;cab;");
        int[] dues = {2, 0, 1, NONE, NONE};
        for (int i = NONE; i < 4; i++) due.is("key(" + i + ")", x.key(i), dues[i + 1]);
        for (int i : new int[] {-2, 12, LEAST, MOST}) due.is("key(" + i + ")", x.key(i), NONE);
        Told.tell(x, "aa;");
        for (int i : new int[] {NONE, 0, -2, LEAST, MOST}) due.is("there is none: key(" + i + ")", x.key(i), NONE);
        Told.tell(x, "ba;");
        due.is("other words, another key", x.key(0), 0);
        Told.tell(x, roomful());
        due.is("128 letters of words", x.key(NONE), 6);
        int[] spelt = {1, 0, 1, 0, 1, 1, NONE};
        for (int i = 0; i < 7; i++) due.is("128 letters of words: key(" + i + ")", x.key(i), spelt[i]);
        Told.tell(x, "ab;");
        due.is("fewer words: nothing is left of them", x.key(NONE), 1);
        due.is("fewer words: nothing is left of them", x.key(0), 1);
    }

    private void keyNot() {
        due.says("Promise 18", "NOT: there are no WORDS; LARGE: more than 2000 unlike states of knowing are come to ahead of it.");
        RunTogether x = new RunTogether();
        for (int i : new int[] {NONE, 0, 11, 12, -2, LEAST, MOST}) due.is("key(" + i + ") of a new object", x.key(i), NOT);
        Told.tell(x, "ab;");
        due.is("one word", x.key(NONE), 1);
        x.read();
        due.is("none again", x.key(NONE), NOT);
        Told.tell(x, "ab;");
        x.letters(2);
        due.is("none again", x.key(NONE), NOT);
    }

    private void strange() {
        due.says("Promise 19", "THE SHORTEST STRANGE ROW, likewise.");
        RunTogether x = Told.with(3, "ab;bc;cab;");
        int[] dues = {2, 0, 0, NONE, NONE};
        for (int i = NONE; i < 4; i++) due.is("strange(" + i + ")", x.strange(i), dues[i + 1]);
        for (int i : new int[] {-2, 12, LEAST, MOST}) due.is("strange(" + i + ")", x.strange(i), NONE);
        Told.tell(x, "a;b;c;");
        for (int i : new int[] {NONE, 0, -2, LEAST, MOST}) due.is("there is none: strange(" + i + ")", x.strange(i), NONE);
        Told.tell(x, "a;b;");
        due.is("other words, another row", x.strange(0), 2);
        x.letters(2);
        Told.tell(x, roomful());
        due.is("128 letters of words", x.strange(NONE), 5);
        int[] spelt = {1, 0, 1, 0, 0, NONE};
        for (int i = 0; i < 6; i++) due.is("128 letters of words: strange(" + i + ")", x.strange(i), spelt[i]);
        Told.tell(x, "ab;");
        due.is("fewer words: nothing is left of them", x.strange(NONE), 2);
    }

    private void strangeNot() {
        due.says("Promise 19", "NOT, LARGE likewise.");
        RunTogether x = new RunTogether();
        for (int i : new int[] {NONE, 0, 11, 12, -2, LEAST, MOST}) due.is("strange(" + i + ") of a new object", x.strange(i), NOT);
        Told.tell(x, "ab;");
        due.is("one word", x.strange(NONE), 2);
        x.read();
        due.is("none again", x.strange(NONE), NOT);
        Told.tell(x, "ab;");
        x.letters(2);
        due.is("none again", x.strange(NONE), NOT);
    }

    private void kindsAside() {
        due.says("Terms", "(KINDS and FOLLOWS aside.)");
        RunTogether x = Told.with(2, "ab/1;a/2;b/3;");
        RunTogether y = Told.with(2, "ab/1;a/2;b/3;");
        for (int i = 0; i < 4; i++) {
            for (int j = 0; j < 4; j++) y.follows(i, j, false);
        }
        for (int what = 0; what < 3; what++) due.is("within(" + what + ")", y.within(what), x.within(what));
        for (int i = NONE; i < 3; i++) {
            due.is("key(" + i + ")", y.key(i), x.key(i));
            due.is("strange(" + i + ")", y.strange(i), x.strange(i));
        }
        due.is("ways(9)", y.ways(9), x.ways(9));
        due.is("rows(9)", y.rows(9), 512);
    }

    private void ways() {
        due.says("Promise 20", "Of n letters (0 .. 40; KINDS aside): in how many ways WORDS run together come to n letters.");
        RunTogether x = new RunTogether();
        due.is("no letters, no words", x.ways(0), 1);
        due.is("one letter, no words", x.ways(1), 0);
        due.is("40 letters, no words", x.ways(40), 0);
        Told.tell(x, "aaaaaaaa;");
        for (int n = 0; n <= 40; n++) due.is("words of eight, ways(" + n + ")", x.ways(n), n % 8 == 0 ? 1 : 0);
        Told.tell(x, "ab;ba;");
        due.is("ways(40) of two words of two letters", x.ways(40), 1 << 20);
        due.is("ways(39) of two words of two letters", x.ways(39), 0);
        Told.tell(x, "a;b;ab;");
        due.is("one row in two ways counts twice", x.ways(2), 5);
    }

    private void waysRefused() {
        due.says("Promise 20", "OUTSIDE, LARGE: above 10 to the 15.");
        String ten = "aa;ab;ac;ad;ae;af;ag;ah;ba;bb;";
        RunTogether x = Told.with(8, ten);
        due.is("10 to the 15", x.ways(30), 1000000000000000L);
        due.is("10 to the 16", x.ways(32), LARGE);
        due.is("nothing of 31", x.ways(31), 0);
        due.is("nothing of 39", x.ways(39), 0);
        Told.tell(x, ten + "hhhhhhh;");
        due.is("1000004500000050", x.ways(30), LARGE);
        due.is("10 to the 14, 36 times 10 to the 7 with two of seven letters, and one with four", x.ways(28), 100000360000001L);
        for (int n : new int[] {-1, 41, LEAST, MOST}) {
            due.is("ways(" + n + ")", x.ways(n), OUTSIDE);
            due.is("ways(" + n + ") without words", new RunTogether().ways(n), OUTSIDE);
        }
        Told.tell(x, "a;b;c;d;e;f;g;h;aa;ab;ac;ad;ae;af;ag;ah;");
        due.is("far above, no wrap-around", x.ways(40), LARGE);
        due.is("far above, no wrap-around", x.ways(24), LARGE);
    }

    private static final String PREFIX_FREE = "a;b;c;d;e;f;ga;gbaa;gbbaa;gbbab;gbcaaaa;gbcaaab;gbcaaac;gbcaaad;";

    private void rows() {
        due.says("Promise 21", "How many ROWS of n letters (0 .. 20) can be read (KINDS aside).");
        RunTogether x = new RunTogether();
        due.is("no letters, no words", x.rows(0), 1);
        due.is("one letter, no words", x.rows(1), 0);
        due.is("20 letters, no words", x.rows(20), 0);
        Told.tell(x, ALL_A);
        for (int n = 0; n <= 20; n++) due.is("one row, in however many ways: rows(" + n + ")", x.rows(n), 1);
        Told.tell(x, "aaaaaaaa;");
        for (int n = 0; n <= 20; n++) due.is("words of eight, rows(" + n + ")", x.rows(n), n % 8 == 0 ? 1 : 0);
        Told.tell(x, "a;b;");
        due.is("all rows of 20", x.rows(20), 1 << 20);
        Told.tell(x, "a;b;ab;");
        due.is("one row in two ways counts once", x.rows(2), 4);
        Told.tell(x, "ab;ba;");
        due.is("rows(20) of ab, ba", x.rows(20), 1 << 10);
        due.is("rows(19) of ab, ba", x.rows(19), 0);
        Told.tell(x, roomful());
        due.is("128 letters of words: rows(16)", x.rows(16), 256);
        due.is("128 letters of words: rows(20)", x.rows(20), 0);
        due.is("128 letters of words: ways(40)", x.ways(40), 1 << 20);
        Told.tell(x, "a;");
        due.is("fewer words: nothing is left of them", x.rows(16), 1);
    }

    /** Sixteen words of eight letters, as many as there can be: aa, then all that four letters can be, then bb. */
    private static String roomful() {
        StringBuilder text = new StringBuilder();
        for (int n = 0; n < 16; n++) {
            text.append("aa");
            for (int bit = 3; bit >= 0; bit--) text.append((char) ('a' + (n >> bit & 1)));
            text.append("bb;");
        }
        return text.toString();
    }

    private void rowsRefused() {
        due.says("Promise 21", "OUTSIDE, LARGE: above 10 to the 15, or more than 2000 unlike states of knowing on the way.");
        RunTogether x = Told.with(7, PREFIX_FREE + "gbdaaaaa;gbdaaaab;");
        due.is("just below 10 to the 15", x.rows(19), 999978825947944L);
        due.is("as many ways as rows", x.ways(19), 999978825947944L);
        due.is("one letter more", x.rows(20), LARGE);
        Told.tell(x, PREFIX_FREE + "gbcaaae;");
        due.is("just above: 1000005008974777", x.rows(19), LARGE);
        due.is("as many ways as rows", x.ways(19), LARGE);
        for (int n : new int[] {-1, 21, 40, LEAST, MOST}) {
            due.is("rows(" + n + ")", x.rows(n), OUTSIDE);
            due.is("rows(" + n + ") without words", new RunTogether().rows(n), OUTSIDE);
        }
        x.letters(8);
        Told.tell(x, "a;b;c;d;e;f;g;h;");
        due.is("8 to the 16", x.rows(16), 1L << 48);
        due.is("8 to the 17", x.rows(17), LARGE);
        due.is("8 to the 20", x.rows(20), LARGE);
    }
}
