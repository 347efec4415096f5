/** The edges that the document names for promises 9 to 16, sentence by sentence. */
public final class DraftEdgesTest {
    private static final int NONE = RunTogether.NONE, UNKNOWN = RunTogether.UNKNOWN;
    private static final int OUTSIDE = RunTogether.OUTSIDE, FULL = RunTogether.FULL, LARGE = RunTogether.LARGE;
    private static final int LEAST = Integer.MIN_VALUE, MOST = Integer.MAX_VALUE;
    private static final long TEN15 = 1000000000000000L;
    private static final String ALL_A = "a:0;aa:0;aaa:0;aaaa:0;aaaaa:0;aaaaaa:0;aaaaaaa:0;aaaaaaaa:0;";
    /** In how many ways parts of 1 to 8 make 48, and 47. */
    private static final long ALL_OF_48 = 129748042192532L, ALL_OF_47 = 65003013735352L;
    private final Due due = new Due();

    public static void main(String[] args) {
        DraftEdgesTest test = new DraftEdgesTest();
        test.draft48();
        test.letter();
        test.letterRefused();
        test.append();
        test.appendRefused();
        test.clear();
        test.readings();
        test.readingsOfNothing();
        test.readingsMost();
        test.reading();
        test.readingInOrder();
        test.readingOutside();
        test.best();
        test.bestCost();
        test.bestLarge();
        test.bestNone();
        test.bestOutside();
        test.cheapest();
        test.end();
        test.endOfPlaces();
        test.endOutside();
        test.due.close();
    }

    private static RunTogether row(int k, String words, String draft) {
        RunTogether x = Told.with(k, words);
        Told.write(x, draft);
        return x;
    }

    private void draft48() {
        due.says("Terms", "THE DRAFT is a ROW of up to 48 letters.");
        RunTogether x = new RunTogether();
        for (int n = 1; n <= 48; n++) due.is("letter " + n, x.letter(n % 2), n);
        due.is("a 49th letter", x.letter(0), FULL);
        due.is("48 letters", x.count(2), 48);
        Told.tell(x, "ba;");
        due.is("each where it was put", x.readings(), 1);
        due.is("24 words", x.reading(0, 23), 0);
        due.is("no 25th word", x.reading(0, 24), NONE);
    }

    private void letter() {
        due.says("Promise 9", "A letter more of THE DRAFT: how many it has.");
        RunTogether x = new RunTogether();
        x.letters(8);
        for (int a = 0; a < 8; a++) due.is("letter(" + a + ")", x.letter(a), a + 1);
        Told.tell(x, "abcdefgh;");
        due.is("in their order", x.readings(), 1);
    }

    private void letterRefused() {
        due.says("Promise 9", "OUTSIDE (it is not there), FULL.");
        for (int k = 2; k <= 8; k++) {
            RunTogether x = new RunTogether();
            x.letters(k);
            for (int a : new int[] {-1, k, k + 1, 8, LEAST, MOST}) {
                due.is("letter(" + a + ") of " + k, x.letter(a), a >= 0 && a < k ? 1 : OUTSIDE);
            }
            due.is("nothing came", x.count(2), 0);
            for (int n = 1; n <= 48; n++) x.letter(k - 1);
            due.is("the first letter, of 49", x.letter(0), FULL);
            due.is("the last letter, of 49", x.letter(k - 1), FULL);
            due.is("no such letter, of 49", x.letter(k), OUTSIDE);
            due.is("no such letter, of 49", x.letter(-1), OUTSIDE);
            due.is("48", x.clear(), 48);
            due.is("room again", x.letter(0), 1);
        }
    }

    private void append() {
        due.says("Promise 10", "A WORD's letters come behind THE DRAFT: how many it has.");
        RunTogether x = Told.with(3, "c;abcabcab;");
        due.is("the shortest", x.append(0), 1);
        due.is("the longest", x.append(1), 9);
        Told.tell(x, "cabca;bcab;");
        due.is("letter by letter", x.readings(), 1);
        due.is("letter by letter", x.reading(0, 0), 0);
    }

    private void appendRefused() {
        due.says("Promise 10", "UNKNOWN, FULL (nothing is changed).");
        RunTogether x = new RunTogether();
        due.is("no words: append(0)", x.append(0), UNKNOWN);
        for (int length = 1; length <= 8; length++) {
            x = Told.with(2, "a".repeat(length) + ";b;");
            for (int n = 0; n < 48 - length; n++) x.letter(1);
            due.is("just " + length + " letters of room", x.append(0), 48);
            due.is("none of room", x.append(0), FULL);
            due.is("none of room", x.append(1), FULL);
            due.is("no such word", x.append(2), UNKNOWN);
            due.is("no such word", x.append(-1), UNKNOWN);
            x.clear();
            for (int n = 0; n < 49 - length; n++) x.letter(1);
            due.is("one letter too few of room", x.append(0), FULL);
            due.is("nothing is changed", x.count(2), 49 - length);
            Told.tell(x, "b;");
            due.is("not a letter of it came", x.readings(), 1);
            for (int w : new int[] {1, -1, 16, LEAST, MOST}) due.is("append(" + w + ")", x.append(w), UNKNOWN);
        }
    }

    private void clear() {
        due.says("Promise 11", "THE DRAFT is empty: how many letters it had.");
        RunTogether x = new RunTogether();
        due.is("none", x.clear(), 0);
        x.letter(0);
        due.is("one", x.clear(), 1);
        due.is("none any more", x.clear(), 0);
        for (int n = 0; n < 48; n++) x.letter(0);
        due.is("all", x.clear(), 48);
        due.is("empty", x.count(2), 0);
        due.is("empty", x.readings(), 1);
        due.is("empty", x.end(1), OUTSIDE);
        Told.tell(x, "b;");
        x.letter(1);
        due.is("no letter of before", x.readings(), 1);
    }

    private void readings() {
        due.says("Terms", "A READING of it: WORDS one behind the other that together are it, each KIND FOLLOWING the one ahead.");
        due.is("letters are left at the end", row(2, "ab;", "aba").readings(), 0);
        due.is("letters are left ahead", row(2, "ab;", "bab").readings(), 0);
        due.is("letters are left between", row(2, "ab;", "abaab").readings(), 0);
        due.is("a word longer than it", row(2, "ab;", "a").readings(), 0);
        due.is("the whole of it is a word", row(2, "abab;ab;", "abab").readings(), 2);
        RunTogether x = row(2, "a/0;b/1;ab/2;", "aab");
        due.is("all follow", x.readings(), 2);
        x.follows(0, 2, false);
        due.is("ab not behind a", x.readings(), 1);
        x.follows(0, 0, false);
        due.is("a not behind a", x.readings(), 0);
        Told.write(x, "a");
        for (int i = 0; i < 4; i++) {
            for (int j = 0; j < 4; j++) x.follows(i, j, false);
        }
        due.is("nothing is ahead of the first", x.readings(), 1);
        x.letter(0);
        due.is("nothing may follow", x.readings(), 0);
    }

    private void readingsOfNothing() {
        due.says("Terms", "(THE DRAFT without letters has one READING, without WORDS.)");
        for (RunTogether x : new RunTogether[] {new RunTogether(), Told.with(2, "a;"), Told.with(2, ALL_A)}) {
            x.follows(0, 0, false);
            due.is("readings()", x.readings(), 1);
            due.is("reading(0, 0)", x.reading(0, 0), NONE);
            due.is("reading(1, 0)", x.reading(1, 0), NONE);
            int[] best = {0, 1, 0, 0};
            for (int what = 0; what < 4; what++) due.is("best(" + what + ")", x.best(what), best[what]);
            due.is("cheapest(0)", x.cheapest(0), NONE);
            due.is("end(0)", x.end(0), 2);
        }
        due.is("without words, of a letter", row(2, "", "a").readings(), 0);
    }

    private void readingsMost() {
        due.says("Promise 12", "How many READINGS. LARGE: above 10 to the 15.");
        due.is("none", row(2, "a;", "b").readings(), 0);
        due.is("as many as there can ever be", row(2, ALL_A, "a".repeat(48)).readings(), ALL_OF_48);
        due.is("of 47", row(2, ALL_A, "a".repeat(47)).readings(), ALL_OF_47);
        due.is("more than an int has", row(2, "a;aa;", "a".repeat(48)).readings(), 7778742049L);
        RunTogether x = row(2, "a/0;aa/1;aaa/2;aaaa/3;", "a".repeat(48));
        for (int i = 0; i < 4; i++) {
            for (int j = 0; j < 4; j++) x.follows(i, j, i == j);
        }
        due.is("each kind behind itself alone", x.readings(), 4);
    }

    private void reading() {
        due.says("Promise 13", "WORD j of the i-th READING (i 0 .. 10 to the 15); NONE: there is none such.");
        RunTogether x = row(2, "a;aa;", "aaa");
        int[][] all = {{0, 0, 0}, {0, 1}, {1, 0}};
        for (int i = 0; i < 3; i++) {
            for (int j = 0; j < all[i].length; j++) due.is("reading(" + i + ", " + j + ")", x.reading(i, j), all[i][j]);
            for (int j : new int[] {all[i].length, 48, -1, LEAST, MOST}) due.is("reading(" + i + ", " + j + ")", x.reading(i, j), NONE);
        }
        for (long i : new long[] {3, 4, 1L << 32, TEN15 - 1, TEN15}) {
            for (int j : new int[] {0, 1, -1, MOST}) due.is("reading(" + i + ", " + j + ")", x.reading(i, j), NONE);
        }
        x = row(2, "a;", "b");
        due.is("there is no reading", x.reading(0, 0), NONE);
        due.is("there is no reading", x.reading(TEN15, 0), NONE);
    }

    private void readingInOrder() {
        due.says("Terms", "READINGS are held against one another word by word, the lesser number ahead.");
        RunTogether x = row(2, ALL_A, "a".repeat(48));
        due.is("the first: 48 words 0", x.reading(0, 47), 0);
        due.is("the first: no 49th word", x.reading(0, 48), NONE);
        due.is("the second: aa at its end", x.reading(1, 46), 1);
        due.is("the last that begins with word 0", x.reading(ALL_OF_47 - 1, 0), 0);
        due.is("the last that begins with word 0", x.reading(ALL_OF_47 - 1, 1), 7);
        due.is("the first that begins with word 1", x.reading(ALL_OF_47, 0), 1);
        due.is("the first that begins with word 1", x.reading(ALL_OF_47, 1), 0);
        for (int j = 0; j < 6; j++) due.is("the last: word " + j, x.reading(ALL_OF_48 - 1, j), 7);
        due.is("the last: no seventh word", x.reading(ALL_OF_48 - 1, 6), NONE);
        due.is("behind the last", x.reading(ALL_OF_48, 0), NONE);
        x = row(2, "aa;a;", "aa");
        due.is("by numbers, not by rows", x.reading(0, 0), 0);
        due.is("by numbers, not by rows", x.reading(1, 0), 1);
        x = row(2, "a/0;aa/1;", "aaa");
        x.follows(0, 0, false);
        due.is("only those that there are", x.reading(0, 1), 1);
        due.is("only those that there are", x.reading(1, 0), 1);
        due.is("only those that there are", x.reading(2, 0), NONE);
        Told.write(x, "aaaa");
        int[][] all = {{0, 1, 0, NONE}, {1, 1, NONE, NONE}, {NONE, NONE, NONE, NONE}};
        for (int i = 0; i < 3; i++) {
            for (int j = 0; j < 4; j++) due.is("a not behind a: reading(" + i + ", " + j + ")", x.reading(i, j), all[i][j]);
        }
    }

    private void readingOutside() {
        due.says("Promise 13", "OUTSIDE (i).");
        RunTogether x = row(2, "a;", "a");
        for (long i : new long[] {-1, TEN15 + 1, 1L << 32 | 1L << 62, Long.MIN_VALUE, Long.MAX_VALUE}) {
            for (int j : new int[] {0, 1, -1, LEAST, MOST}) due.is("reading(" + i + ", " + j + ")", x.reading(i, j), OUTSIDE);
        }
        due.is("nothing to read", new RunTogether().reading(-1, 0), OUTSIDE);
        due.is("nothing to read", new RunTogether().reading(TEN15 + 1, 0), OUTSIDE);
    }

    private void best(RunTogether x, int... dues) {
        for (int what = 0; what < 4; what++) due.is("best(" + what + ")", x.best(what), dues[what]);
    }

    private void best() {
        due.says("Promise 14", "Of READINGS: what = 0 the least COST, 1 how many have that (LARGE above 10 to the 9), 2 the least number of WORDS, 3 the greatest one;");
        best(row(2, "a:7;", "a"), 7, 1, 1, 1);
        best(row(2, "a:5;aa:9;aaa:15;", "aaa"), 14, 2, 1, 3);
        best(row(2, "a:5;aa:9;aaa:14;", "aaa"), 14, 3, 1, 3);
        best(row(2, "a:5;aa:9;aaa:13;", "aaa"), 13, 1, 1, 3);
        best(row(2, "aaaaaaaa:0;", "a".repeat(48)), 0, 1, 6, 6);
        RunTogether x = row(2, "a:0/0;aa:50/1;", "aaaa");
        best(x, 0, 1, 2, 4);
        x.follows(0, 0, false);
        best(x, 50, 1, 2, 3);
    }

    private void bestCost() {
        due.says("Terms", "COST of a READING: of its WORDS, all together.");
        best(row(2, "a:99;", "a".repeat(48)), 4752, 1, 48, 48);
        best(row(2, "a:0;", "a".repeat(48)), 0, 1, 48, 48);
        best(row(2, "a:98;aa:99;", "a".repeat(48)), 24 * 99, 1, 24, 48);
    }

    /** Runs of five letters, each of which can be read in ten ways as a, aa, aaaa: nine of them. */
    private static RunTogether tenToTheNinth(String moreWords) {
        RunTogether x = Told.with(2, "a:0;aa:0;aaaa:0;b:0;bb:0;bbbb:0;" + moreWords);
        Told.write(x, "aaaaabbbbb".repeat(4) + "aaaaa");
        x.follows(0, 1, false);
        x.follows(1, 0, false);
        return x;
    }

    private void bestLarge() {
        RunTogether x = tenToTheNinth("");
        due.is("10 to the 9: readings()", x.readings(), 1000000000L);
        due.is("10 to the 9: best(1)", x.best(1), 1000000000);
        x = tenToTheNinth("aaaaabb:0/1;bbb:0/1;aaaaa:0/1;");
        due.is("one more: readings()", x.readings(), 1000000001L);
        due.is("one more: best(1)", x.best(1), LARGE);
        due.is("one more: best(0)", x.best(0), 0);
        x = tenToTheNinth("aaaaabb:0/1;bbb:0/1;aaaaa:1/1;");
        due.is("one more, but dearer: readings()", x.readings(), 1000000001L);
        due.is("one more, but dearer: best(1)", x.best(1), 1000000000);
        x = row(2, ALL_A, "a".repeat(48));
        best(x, 0, LARGE, 6, 48);
        x = row(2, "a:0;aa:0;", "a".repeat(46));
        due.is("more than an int has: 2971215073", x.best(1), LARGE);
        x = row(2, "a:1;aa:1;", "a".repeat(48));
        due.is("many readings, one of least cost", x.best(1), 1);
    }

    private void bestNone() {
        due.says("Promise 14", "NONE (0 of what = 1): there is no READING.");
        best(row(2, "", "a"), NONE, 0, NONE, NONE);
        best(row(2, "ab;", "aba"), NONE, 0, NONE, NONE);
        RunTogether x = row(2, "a;", "aa");
        x.follows(0, 0, false);
        best(x, NONE, 0, NONE, NONE);
    }

    private void bestOutside() {
        due.says("Promise 14", "OUTSIDE.");
        for (int what : new int[] {-1, 4, LEAST, MOST}) {
            due.is("best(" + what + ") of nothing", new RunTogether().best(what), OUTSIDE);
            due.is("best(" + what + ") without a reading", row(2, "", "a").best(what), OUTSIDE);
            due.is("best(" + what + ")", row(2, "a;", "a").best(what), OUTSIDE);
        }
    }

    private void cheapest(RunTogether x, int... words) {
        for (int j = 0; j < words.length; j++) due.is("cheapest(" + j + ")", x.cheapest(j), words[j]);
        for (int j : new int[] {words.length, 48, -1, LEAST, MOST}) due.is("cheapest(" + j + ")", x.cheapest(j), NONE);
    }

    private void cheapest() {
        due.says("Promise 15", "WORD j of the first READING of least COST; NONE.");
        cheapest(new RunTogether());
        cheapest(row(2, "", "a"));
        cheapest(row(2, "ab;", "aba"));
        cheapest(row(2, "a:5;aa:9;", "aaa"), 0, 1);
        cheapest(row(2, "aa:9;a:5;", "aaa"), 0, 1);
        cheapest(row(2, "a:5;aa:10;", "aaa"), 0, 0, 0);
        cheapest(row(2, "aa:10;a:5;", "aaa"), 0, 1);
        cheapest(row(2, "aaa:15;a:5;", "aaa"), 0);
        cheapest(row(2, "aaa:16;a:5;", "aaa"), 1, 1, 1);
        RunTogether dear = row(2, "a:1/0;aa:9/1;", "aaaa");
        dear.follows(0, 0, false);
        cheapest(dear, 0, 1, 0);
        RunTogether x = row(2, "a:0;", "a".repeat(48));
        due.is("word 47 of 48", x.cheapest(47), 0);
        due.is("no word 48", x.cheapest(48), NONE);
    }

    private void ends(RunTogether x, String dues) {
        for (int place = 0; place < dues.length(); place++) due.is("end(" + place + ")", x.end(place), dues.charAt(place) - '0');
    }

    private void end() {
        due.says("Promise 16", "Of a place: 0 no READING has an end there, 1 some, 2 all.");
        ends(row(2, "ab;a;b;", "ab"), "212");
        ends(row(2, "ab;", "ab"), "202");
        ends(row(2, "a;b;", "ab"), "222");
        ends(row(2, "a;ab;b;ba;", "abab"), "21112");
        ends(row(2, "a;bb;abb;", "abbabb"), "2102102");
        ends(row(2, ALL_A, "a".repeat(48)), "2" + "1".repeat(47) + "2");
        RunTogether x = row(2, "a/0;ab/1;b/2;", "aab");
        ends(x, "2212");
        x.follows(0, 2, false);
        ends(x, "2202");
        x.follows(0, 1, false);
        ends(x, "0000");
    }

    private void endOfPlaces() {
        due.says("Terms", "At a place (0 .. its length) some READINGS have an end of a WORD, all, or none (places 0 and the last one: all, if there are READINGS).");
        ends(new RunTogether(), "2");
        ends(row(2, "ab;", ""), "2");
        ends(row(2, "", "ab"), "000");
        ends(row(2, "ab;", "aba"), "0000");
        ends(row(2, "ab;", "bab"), "0000");
        ends(row(2, "a;", "a"), "22");
        ends(row(2, "aaaaaaaa;", "a".repeat(48)), "2" + "00000002".repeat(6));
    }

    private void endOutside() {
        due.says("Promise 16", "OUTSIDE.");
        for (int length : new int[] {0, 1, 47, 48}) {
            RunTogether x = row(2, "a;", "a".repeat(length));
            due.is("the last place of " + length, x.end(length), 2);
            for (int place : new int[] {-1, length + 1, LEAST, MOST}) due.is("end(" + place + ") of " + length, x.end(place), OUTSIDE);
        }
        due.is("OUTSIDE without a reading", row(2, "", "a").end(2), OUTSIDE);
    }
}
