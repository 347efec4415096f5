/** Promises 9 to 16: THE DRAFT and its READINGS. */
public final class DraftTest {
    private static final int NONE = RunTogether.NONE, UNKNOWN = RunTogether.UNKNOWN;
    private static final int OUTSIDE = RunTogether.OUTSIDE, FULL = RunTogether.FULL, LARGE = RunTogether.LARGE;
    private static final long TEN15 = 1000000000000000L;
    private static final String ALL_A = "a;aa;aaa;aaaa;aaaaa;aaaaaa;aaaaaaa;aaaaaaaa;";
    private final Due due = new Due();

    public static void main(String[] args) {
        DraftTest test = new DraftTest();
        test.promises9To11();
        test.promise12();
        test.promise13();
        test.promise14();
        test.promise15();
        test.promise16();
        test.due.close();
    }

    private void promises9To11() {
        RunTogether x = Told.with(3, "abc;a;abcabcab;");
        for (int a : new int[] {-1, 3, 7, Integer.MIN_VALUE, Integer.MAX_VALUE}) {
            due.is("9 letter(" + a + ")", x.letter(a), OUTSIDE);
        }
        due.is("9 a letter", x.letter(2), 1);
        due.is("10 a word", x.append(0), 4);
        due.is("10 no such word", x.append(3), UNKNOWN);
        due.is("10 no such word", x.append(-1), UNKNOWN);
        due.is("10 no such word", x.append(Integer.MAX_VALUE), UNKNOWN);
        due.is("9 10 nothing changed", x.count(2), 4);
        for (int n = 12; n <= 44; n += 8) due.is("10 eight letters more", x.append(2), n);
        due.is("10 too many letters", x.append(2), FULL);
        due.is("10 nothing changed", x.count(2), 44);
        due.is("10 three more", x.append(0), 47);
        due.is("10 UNKNOWN ahead of FULL", x.append(5), UNKNOWN);
        due.is("9 the last one", x.letter(0), 48);
        due.is("9 one too many", x.letter(0), FULL);
        due.is("9 OUTSIDE ahead of FULL", x.letter(3), OUTSIDE);
        due.is("10 one too many", x.append(1), FULL);
        due.is("11 how many it had", x.clear(), 48);
        due.is("11 none", x.clear(), 0);
        due.is("11 empty", x.count(2), 0);
        x.append(0);
        due.is("10 the word's letters", x.readings(), 1);
        due.is("10 the word's letters", x.cheapest(0), 0);
    }

    private void promise12() {
        RunTogether x = Told.with(2, "a;aa;");
        due.is("12 of nothing", x.readings(), 1);
        long[] ways = {1, 1};
        for (int n = 1; n <= 48; n++) {
            x.letter(0);
            due.is("12 of " + n, x.readings(), ways[1]);
            ways = new long[] {ways[1], ways[0] + ways[1]};
        }
        Told.write(x, "aab");
        due.is("12 none", x.readings(), 0);
        x.letters(2);
        Told.write(x, "a");
        due.is("12 without words", x.readings(), 0);
        x.clear();
        due.is("12 of nothing, without words", x.readings(), 1);
        x = Told.with(2, "a/0;aa/1;");
        Told.write(x, "aaaa");
        due.is("12 kinds", x.readings(), 5);
        x.follows(1, 1, false);
        due.is("12 not aa aa", x.readings(), 4);
        x.follows(0, 0, false);
        due.is("12 only a aa a", x.readings(), 1);
        x.follows(1, 0, false);
        due.is("12 none", x.readings(), 0);
        Told.write(x, "a");
        due.is("12 the first word comes behind none", x.readings(), 1);
        x = Told.with(2, ALL_A);
        for (int i = 0; i < 48; i++) x.letter(0);
        due.is("12 the most there can be", x.readings(), compositions(48));
    }

    /** In how many ways parts of 1 to 8 add up to n. */
    private static long compositions(int n) {
        long[] ways = new long[n + 1];
        ways[0] = 1;
        for (int i = 1; i <= n; i++) {
            for (int part = 1; part <= Math.min(8, i); part++) ways[i] += ways[i - part];
        }
        return ways[n];
    }

    private void reading(RunTogether x, long i, int... words) {
        for (int j = 0; j < words.length; j++) due.is("13 reading(" + i + ", " + j + ")", x.reading(i, j), words[j]);
        due.is("13 behind reading " + i, x.reading(i, words.length), NONE);
        due.is("13 ahead of reading " + i, x.reading(i, -1), NONE);
        due.is("13 far behind reading " + i, x.reading(i, Integer.MAX_VALUE), NONE);
        due.is("13 far ahead of reading " + i, x.reading(i, Integer.MIN_VALUE), NONE);
    }

    private void promise13() {
        RunTogether x = Told.with(2, "aa;a;ab;b;");
        reading(x, 0);
        due.is("13 nothing has one reading", x.reading(1, 0), NONE);
        Told.write(x, "aaab");
        reading(x, 0, 0, 1, 3);
        reading(x, 1, 0, 2);
        reading(x, 2, 1, 0, 3);
        reading(x, 3, 1, 1, 1, 3);
        reading(x, 4, 1, 1, 2);
        due.is("13 no sixth one", x.reading(5, 0), NONE);
        due.is("13 at the bound", x.reading(TEN15, 0), NONE);
        for (long i : new long[] {-1, TEN15 + 1, Long.MIN_VALUE, Long.MAX_VALUE, 1L << 32 | 1L << 63}) {
            due.is("13 reading(" + i + ", 0)", x.reading(i, 0), OUTSIDE);
        }
        x = Told.with(2, "a/0;aa/1;");
        Told.write(x, "aaaa");
        x.follows(0, 0, false);
        reading(x, 0, 0, 1, 0);
        reading(x, 1, 1, 1);
        x = Told.with(2, ALL_A);
        for (int i = 0; i < 48; i++) x.letter(0);
        due.is("13 the first one is all a", x.reading(0, 47), 0);
        due.is("13 the last one", x.reading(compositions(48) - 1, 5), 7);
        due.is("13 the last one", x.reading(compositions(48) - 1, 6), NONE);
        due.is("13 behind the last one", x.reading(compositions(48), 0), NONE);
        due.is("13 the first that begins with aa", x.reading(compositions(47), 0), 1);
        due.is("13 the one ahead of it", x.reading(compositions(47) - 1, 0), 0);
    }

    private void best(RunTogether x, String row, int... due) {
        Told.write(x, row);
        for (int what = 0; what < 4; what++) this.due.is("14 best(" + what + ") of " + row, x.best(what), due[what]);
    }

    private void promise14() {
        RunTogether x = Told.with(2, "a:2;aa:3;ab:5;b:3;");
        best(x, "", 0, 1, 0, 0);
        best(x, "a", 2, 1, 1, 1);
        best(x, "ab", 5, 2, 1, 2);
        best(x, "aab", 6, 1, 2, 3);
        best(x, "aaab", 8, 3, 2, 4);
        for (int what : new int[] {-1, 4, Integer.MIN_VALUE, Integer.MAX_VALUE}) {
            due.is("14 best(" + what + ")", x.best(what), OUTSIDE);
        }
        x = Told.with(2, "aa:2;");
        best(x, "aaa", NONE, 0, NONE, NONE);
        x.letters(2);
        best(x, "a", NONE, 0, NONE, NONE);
        best(x, "", 0, 1, 0, 0);
        x = Told.with(2, "a:1/0;aa:9/1;");
        x.follows(0, 0, false);
        best(x, "aaaa", 11, 1, 2, 3);
        x = Told.with(2, "a:99;");
        best(x, "a".repeat(48), 48 * 99, 1, 48, 48);
        x = Told.with(2, "a:0;aa:0;");
        best(x, "a".repeat(43), 0, 701408733, 22, 43);
        best(x, "a".repeat(44), 0, LARGE, 22, 44);
        x = Told.with(2, ALL_A.replace(";", ":0;"));
        best(x, "a".repeat(48), 0, LARGE, 6, 48);
    }

    private void cheapest(RunTogether x, String row, int... words) {
        Told.write(x, row);
        for (int j = 0; j < words.length; j++) due.is("15 cheapest(" + j + ") of " + row, x.cheapest(j), words[j]);
        for (int j : new int[] {words.length, -1, Integer.MIN_VALUE, Integer.MAX_VALUE}) {
            due.is("15 cheapest(" + j + ") of " + row, x.cheapest(j), NONE);
        }
    }

    private void promise15() {
        RunTogether x = Told.with(2, "b:3;a:2;aa:3;ab:5;");
        cheapest(x, "");
        cheapest(x, "ab", 1, 0);
        cheapest(x, "aab", 2, 0);
        cheapest(x, "aaab", 1, 2, 0);
        cheapest(x, "aaa", 1, 2);
        x = Told.with(2, "aa:3;a:2;");
        cheapest(x, "aaa", 0, 1);
        x = Told.with(2, "aa:3;");
        cheapest(x, "aaa");
        x = Told.with(2, "a:1/0;aa:9/1;");
        x.follows(0, 0, false);
        cheapest(x, "aaaa", 0, 1, 0);
    }

    private void ends(RunTogether x, String row, String due) {
        Told.write(x, row);
        for (int p = 0; p <= row.length(); p++) this.due.is("16 end(" + p + ") of " + row, x.end(p), due.charAt(p) - '0');
        for (int p : new int[] {-1, row.length() + 1, Integer.MIN_VALUE, Integer.MAX_VALUE}) {
            this.due.is("16 end(" + p + ") of " + row, x.end(p), OUTSIDE);
        }
    }

    private void promise16() {
        RunTogether x = Told.with(2, "a;ab;ba;bab;");
        ends(x, "", "2");
        ends(x, "aba", "2112");
        ends(x, "aa", "222");
        ends(x, "aab", "2202");
        ends(x, "b", "00");
        ends(x, "abb", "0000");
        ends(x, "ababab", "2111102");
        x = Told.with(2, "ab/1;a/0;ba/2;bab/3;");
        x.follows(0, 2, false);
        ends(x, "aba", "2022");
        x = Told.with(2, ALL_A);
        ends(x, "a".repeat(48), "2" + "1".repeat(47) + "2");
        x.letters(2);
        ends(x, "", "2");
        ends(x, "ab", "000");
    }
}
