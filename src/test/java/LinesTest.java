/** Promises 24 to 29: LINES, TOTAL, USES, LEARNT, THE NEW WORD. */
public final class LinesTest {
    private static final int NONE = RunTogether.NONE, UNKNOWN = RunTogether.UNKNOWN, OUTSIDE = RunTogether.OUTSIDE;
    private static final int NOT = RunTogether.NOT, FULL = RunTogether.FULL;
    private final Due due = new Due();

    public static void main(String[] args) {
        LinesTest test = new LinesTest();
        test.promises24And25();
        test.promise26();
        test.promise27();
        test.promise28();
        test.promise29();
        test.freshKnowsOfEveryChange();
        test.due.close();
    }

    private void promises24And25() {
        RunTogether x = new RunTogether();
        due.is("24 without letters", x.line(), OUTSIDE);
        Told.write(x, "a".repeat(25));
        due.is("24 25 letters", x.line(), OUTSIDE);
        due.is("24 refused changes nothing", x.count(2), 25);
        due.is("24 no line", x.count(4), 0);
        Told.write(x, "a".repeat(24));
        due.is("24 24 letters", x.line(), 1);
        due.is("24 the draft is empty", x.count(2), 0);
        for (int n = 2; n <= 4; n++) {
            x.letter(1);
            due.is("24 line " + n, x.line(), n);
        }
        due.is("24 OUTSIDE ahead of FULL", x.line(), OUTSIDE);
        x.letter(1);
        due.is("24 a fifth one", x.line(), FULL);
        due.is("24 refused changes nothing", x.count(2), 1);
        due.is("24 still four", x.count(4), 4);
        due.is("24 as they were", x.totals(), 27 * 5);
        due.is("25 how many there were", x.drop(), 4);
        due.is("25 none", x.count(4), 0);
        due.is("25 none", x.drop(), 0);
        due.is("25 the draft stays", x.count(2), 1);
        due.is("24 the first again", x.line(), 1);
        due.is("24 of one letter", x.totals(), 5);
    }

    private void promise26() {
        RunTogether x = Told.with(3, "ab:3;bc:4;b:9;abc:20;");
        due.is("26 no lines", x.totals(), 0);
        Told.lines(x, "ab");
        due.is("26 a word", x.totals(), 3);
        Told.lines(x, "abc");
        due.is("26 ab and strange c", x.totals(), 8);
        Told.lines(x, "cb");
        due.is("26 strange ones are cheaper than b", x.totals(), 10);
        Told.lines(x, "abbc", "c", "cabc");
        due.is("26 of all lines", x.totals(), 7 + 5 + 13);
        x.price(2, 9);
        due.is("26 the price of strange letters", x.totals(), 7 + 9 + 9 + 12);
        x.price(0, 0);
        x.price(1, 0);
        due.is("26 no other mistakes", x.totals(), 7 + 9 + 9 + 12);
        x.letters(3);
        due.is("26 no lines any more", x.totals(), 0);
        Told.lines(x, "abc");
        due.is("26 without words", x.totals(), 27);
        x = Told.with(3, "a:1/0;b:1/1;");
        x.follows(0, 1, false);
        Told.lines(x, "acb");
        due.is("26 whatever stands between", x.totals(), 1 + 5 + 5);
        x.follows(0, 1, true);
        due.is("26 it follows", x.totals(), 1 + 5 + 1);
        x = Told.with(2, "a:99;");
        x.price(2, 99);
        Told.lines(x, "a".repeat(24), "b".repeat(24), "a".repeat(24), "b".repeat(24));
        due.is("26 the most", x.totals(), 96 * 99);
    }

    private void uses(RunTogether x, int strange, int... due) {
        for (int w = 0; w < due.length; w++) this.due.is("27 uses(" + w + ")", x.uses(w), due[w]);
        this.due.is("27 uses(NONE)", x.uses(NONE), strange);
    }

    private void promise27() {
        RunTogether x = Told.with(3, "a:5;aa:10;b:6;");
        uses(x, 0, 0, 0, 0);
        Told.lines(x, "a");
        uses(x, 0, 1, 0, 0);
        Told.lines(x, "b");
        uses(x, 1, 0, 0, 0);
        Told.lines(x, "aa");
        uses(x, 0, 2, 0, 0);
        Told.tell(x, "aa:10;a:5;b:6;");
        uses(x, 0, 1, 0, 0);
        Told.lines(x, "aa", "aaab", "cabc");
        uses(x, 4, 2, 2, 0);
        for (int w : new int[] {3, 16, -2, Integer.MIN_VALUE, Integer.MAX_VALUE}) due.is("27 uses(" + w + ")", x.uses(w), UNKNOWN);
        x.letters(2);
        due.is("27 without words", x.uses(0), UNKNOWN);
        due.is("27 without words", x.uses(NONE), 0);
        x = Told.with(2, "b:0/1;a:5/0;");
        x.follows(0, 1, false);
        Told.lines(x, "aba");
        uses(x, 1, 1, 1);
        x.follows(1, 0, false);
        uses(x, 2, 1, 0);
        x.price(2, 0);
        uses(x, 2, 1, 0);
        x = Told.with(2, "ab:5;b:0;a:0;");
        x.price(2, 5);
        Told.lines(x, "ab");
        uses(x, 0, 0, 1, 1);
        x = Told.with(2, "ba:10;a:5;");
        Told.lines(x, "ba");
        uses(x, 0, 1, 0);
        x = Told.with(2, "ba:11;a:5;");
        Told.lines(x, "ba");
        uses(x, 1, 0, 1);
    }

    private void costs(String what, RunTogether x, int... due) {
        for (int w = 0; w < due.length; w++) this.due.is("28 " + what + ": cost of " + w, x.word(w, 0), due[w]);
    }

    private void promise28() {
        RunTogether x = new RunTogether();
        for (int n : new int[] {0, -1, 21, Integer.MIN_VALUE, Integer.MAX_VALUE}) due.is("28 learn(" + n + ")", x.learn(n), OUTSIDE);
        due.is("28 without words", x.learn(1), 0);
        Told.tell(x, "a:7/2;b:1/1;ab:0;");
        due.is("28 OUTSIDE changes nothing", x.learn(0), OUTSIDE);
        costs("refused", x, 7, 1, 0);
        due.is("28 without lines", x.learn(20), 1);
        costs("without lines", x, 1, 1, 1);
        due.is("28 kinds stay", x.word(0, 1), 2);
        due.is("28 again", x.learn(1), 0);
        Told.tell(x, "a:1;b:2;ab:9;");
        Told.lines(x, "aab", "ba");
        due.is("28 a three times, b twice: that is what it was but for ab", x.learn(1), NONE);
        costs("ranks", x, 1, 2, 3);
        due.is("28 then ab is as dear as a b: of these the first", x.learn(1), 0);
        Told.tell(x, "ab:9;a:1;b:2;");
        due.is("28 told the other way, ab is taken", x.learn(1), NONE);
        costs("ranks", x, 3, 1, 2);
        due.is("28 two rounds more", x.learn(1), NONE);
        costs("a twice, ab and b once", x, 2, 1, 2);
        due.is("28 no more", x.learn(1), 0);
        Told.tell(x, "ab:9;a:1;b:2;");
        due.is("28 the number of rounds", x.learn(20), 2);
        Told.tell(x, "ab:9;a:1;b:2;");
        due.is("28 the second one changed some", x.learn(2), NONE);
        Told.tell(x, "ab:9;a:1;b:2;");
        due.is("28 the third one did not", x.learn(3), 2);
        costs("in the end", x, 2, 1, 2);
    }

    private void fresh(RunTogether x, int cost, int less, String row) {
        due.is("29 fresh(" + cost + ", 0)", x.fresh(cost, 0), row == null ? NONE : less);
        due.is("29 fresh(" + cost + ", 1)", x.fresh(cost, 1), row == null ? NONE : row.length());
        for (int i = 0; i < 5; i++) {
            int letter = row == null || i >= row.length() ? NONE : row.charAt(i) - 'a';
            due.is("29 fresh(" + cost + ", " + (2 + i) + ")", x.fresh(cost, 2 + i), letter);
        }
    }

    private void promise29() {
        RunTogether x = new RunTogether();
        fresh(x, 0, 0, null);
        x.letters(8);
        Told.lines(x, "a");
        fresh(x, 0, 0, null);
        Told.lines(x, "ba");
        fresh(x, 0, 10, "ba");
        fresh(x, 9, 1, "ba");
        fresh(x, 10, 0, null);
        Told.lines(x, "abcdefgh");
        fresh(x, 0, 25, "abcde");
        Told.lines(x, "hhhhhhh");
        fresh(x, 0, 30, "hh");
        fresh(x, 1, 28, "hhh");
        Told.lines(x, "ba", "ab");
        fresh(x, 3, 7, "ab");
        Told.tell(x, "ab:9;");
        fresh(x, 3, 7, "ba");
        Told.tell(x, "ab:9;ba:5;");
        fresh(x, 3, 0, null);
        Told.tell(x, "b:1/1;");
        Told.lines(x, "bcdb");
        fresh(x, 2, 10, "bcdb");
        x.follows(1, 0, false);
        fresh(x, 2, 10, "bcdb");
        Told.lines(x, "bcdebcde");
        fresh(x, 2, 32 - 4, "bcde");
        Told.tell(x, "b:0/1;");
        fresh(x, 2, 30 - 4, "bcde");
        x.follows(0, 0, false);
        fresh(x, 2, 30 - 2 - 15, "bcde");
        for (int cost : new int[] {-1, 100, Integer.MIN_VALUE, Integer.MAX_VALUE}) due.is("29 cost " + cost, x.fresh(cost, 0), OUTSIDE);
        for (int what : new int[] {-1, 7, Integer.MIN_VALUE, Integer.MAX_VALUE}) due.is("29 what " + what, x.fresh(0, what), OUTSIDE);
        x = Told.with(2, "a;b;aa;ab;ba;bb;aaa;aab;aba;abb;baa;bab;bba;bbb;aaaa;aaab;");
        due.is("29 sixteen words", x.fresh(0, 0), NOT);
        due.is("29 sixteen words", x.fresh(99, 6), NOT);
        due.is("29 OUTSIDE ahead of NOT", x.fresh(100, 0), OUTSIDE);
        due.is("29 OUTSIDE ahead of NOT", x.fresh(0, 7), OUTSIDE);
        Told.tell(x, "a;b;aa;ab;ba;bb;aaa;aab;aba;abb;baa;bab;bba;bbb;aaaa;");
        Told.lines(x, "aaabaaab");
        due.is("29 fifteen words", x.fresh(0, 0), 3);
        due.is("29 tried words are gone", x.count(1), 15);
    }

    /** What is found is kept from call to call: it must not be kept too long. */
    private void freshKnowsOfEveryChange() {
        RunTogether x = Told.with(3, "");
        Told.lines(x, "abab");
        fresh(x, 1, 19, "abab");
        Told.lines(x, "baba");
        fresh(x, 1, 19, "baba");
        x.price(2, 1);
        fresh(x, 1, 3, "baba");
        Told.tell(x, "baba:0;");
        fresh(x, 1, 0, null);
        Told.tell(x, "baba:50;");
        fresh(x, 1, 2, "aba");
        fresh(x, 0, 4, "ba");
        x.follows(0, 0, false);
        fresh(x, 0, 3, "aba");
        fresh(x, 1, 2, "aba");
        Told.tell(x, "?");
        fresh(x, 1, 2, "aba");
        x.learn(1);
        fresh(x, 1, 0, null);
        fresh(x, 0, 0, null);
        x.letters(3);
        fresh(x, 0, 0, null);
        Told.write(x, "cccc");
        fresh(x, 0, 0, null);
        x.line();
        fresh(x, 0, 4, "cccc");
        x.drop();
        fresh(x, 0, 0, null);
        Told.lines(x, "bb");
        fresh(x, 0, 2, "bb");
        x.letters(3);
        fresh(x, 0, 0, null);
    }
}
