/** The edges that the document names for promises 22 and 23, sentence by sentence. */
public final class MistakesEdgesTest {
    private static final int OUTSIDE = RunTogether.OUTSIDE;
    private static final int LEAST = Integer.MIN_VALUE, MOST = Integer.MAX_VALUE;
    private final Due due = new Due();

    public static void main(String[] args) {
        MistakesEdgesTest test = new MistakesEdgesTest();
        test.pricesAtFirst();
        test.price();
        test.priceOutside();
        test.anotherLetter();
        test.lost();
        test.strange();
        test.leastInAll();
        test.leastNumber();
        test.wholeWordsLost();
        test.kinds();
        test.patched();
        test.patchedOutside();
        test.due.close();
    }

    private void patched(RunTogether x, String row, int least, int mistakes) {
        Told.write(x, row);
        due.is("patched(0) of [" + row + "]", x.patched(0), least);
        due.is("patched(1) of [" + row + "]", x.patched(1), mistakes);
    }

    private static RunTogether priced(int k, String words, int other, int lost, int strange) {
        RunTogether x = Told.with(k, words);
        x.price(0, other);
        x.price(1, lost);
        x.price(2, strange);
        return x;
    }

    private void pricesAtFirst() {
        due.says("Terms", "a letter of a WORD may stand as another one (at a price 0 .. 99; 3 at first), may be lost (4), and strange letters may stand anywhere, in, between, without WORDS (5 each).");
        RunTogether x = new RunTogether();
        for (int what = 0; what < 3; what++) due.is("price(" + what + ", ..) at first", x.price(what, 50), 3 + what);
        x = Told.with(3, "abc:0;");
        patched(x, "abb", 3, 1);
        patched(x, "ab", 4, 1);
        patched(x, "abcc", 5, 1);
        patched(x, "abac", 5, 1);
        patched(x, "aabc", 5, 1);
        patched(x, "abcbabc", 5, 1);
        patched(Told.with(3, ""), "c", 5, 1);
    }

    private void price() {
        due.says("Promise 22", "The price of a mistake (0 another letter, 1 lost, 2 strange) becomes v: what it was.");
        RunTogether x = new RunTogether();
        int[] was = {3, 4, 5};
        for (int v : new int[] {0, 1, 98, 99, 0, 99}) {
            for (int what = 0; what < 3; what++) {
                due.is("price(" + what + ", " + v + ")", x.price(what, v), was[what]);
                was[what] = v;
            }
        }
        patched(priced(3, "abc:0;", 7, 99, 99), "abb", 7, 1);
        patched(priced(3, "abc:0;", 99, 7, 99), "ab", 7, 1);
        patched(priced(3, "abc:0;", 99, 99, 7), "abcc", 7, 1);
    }

    private void priceOutside() {
        due.says("Promise 22", "OUTSIDE.");
        RunTogether x = new RunTogether();
        for (int what : new int[] {-1, 3, LEAST, MOST}) {
            for (int v : new int[] {0, 99, -1, 100}) due.is("price(" + what + ", " + v + ")", x.price(what, v), OUTSIDE);
        }
        for (int what = 0; what < 3; what++) {
            for (int v : new int[] {-1, 100, LEAST, MOST}) due.is("price(" + what + ", " + v + ")", x.price(what, v), OUTSIDE);
        }
        for (int what = 0; what < 3; what++) due.is("as it was", x.price(what, 0), 3 + what);
    }

    private void anotherLetter() {
        due.says("Terms", "PATCHED is THE DRAFT read with mistakes:");
        RunTogether x = priced(2, "aaaaaaaa:1;", 2, 99, 99);
        patched(x, "aaaaaaaa", 1, 0);
        patched(x, "baaaaaaa", 3, 1);
        patched(x, "aaaaaaab", 3, 1);
        patched(x, "bbbbbbbb", 17, 8);
        patched(x, "bbbbbbbb".repeat(6), 6 * 17, 48);
    }

    private void lost() {
        RunTogether x = priced(8, "abcdefgh:1;", 99, 2, 99);
        patched(x, "bcdefgh", 3, 1);
        patched(x, "abcdefg", 3, 1);
        patched(x, "abdefgh", 3, 1);
        patched(x, "a", 15, 7);
        patched(x, "h", 15, 7);
        patched(x, "aa", 30, 14);
        patched(x, "ah", 13, 6);
        patched(x, "ha", 30, 14);
    }

    private void strange() {
        due.says("Terms", "strange letters may stand anywhere, in, between, without WORDS (5 each).");
        RunTogether x = priced(3, "ab:1;", 99, 99, 2);
        patched(x, "", 0, 0);
        patched(x, "c", 2, 1);
        patched(x, "ab", 1, 0);
        patched(x, "cab", 3, 1);
        patched(x, "acb", 3, 1);
        patched(x, "abc", 3, 1);
        patched(x, "abcab", 4, 1);
        patched(x, "ccaccbccabcc", 2 + 2 * 8, 8);
        patched(x, "c".repeat(48), 96, 48);
        patched(priced(3, "", 0, 0, 99), "c".repeat(48), 48 * 99, 48);
        patched(priced(3, "", 0, 0, 0), "c".repeat(48), 0, 48);
    }

    private void leastInAll() {
        due.says("Terms", "The least of COSTS of WORDS (KINDS FOLLOWING one another as told) and prices, all together;");
        patched(Told.with(2, "a:5;"), "a", 5, 0);
        patched(Told.with(2, "a:6;"), "a", 5, 1);
        patched(Told.with(2, "a:4;"), "a", 4, 0);
        patched(Told.with(2, "ab:99;"), "ab", 10, 2);
        patched(Told.with(2, "ab:10;"), "ab", 10, 0);
        patched(priced(2, "a:99;", 99, 99, 99), "a".repeat(48), 4752, 0);
        patched(priced(2, "a:99;", 99, 99, 99), "b".repeat(48), 4752, 48);
        patched(priced(2, "aaaaaaaa:99;", 99, 99, 99), "a", 99, 1);
    }

    private void leastNumber() {
        due.says("Terms", "of readings like that the least number of mistakes.");
        patched(priced(2, "a:0;", 0, 0, 0), "", 0, 0);
        patched(priced(2, "a:0;", 0, 0, 0), "aaaa", 0, 0);
        patched(priced(2, "a:0;", 0, 0, 0), "b", 0, 1);
        patched(priced(2, "aa:0;", 0, 0, 0), "aab", 0, 1);
        patched(priced(2, "aaaaaaaa:0;", 0, 0, 0), "a", 0, 1);
        patched(priced(2, "aaaaaaaa:0;", 0, 0, 1), "a", 0, 7);
        patched(priced(2, "ab:6;a:1;", 4, 5, 5), "ab", 6, 0);
        patched(priced(2, "ab:7;a:1;", 4, 5, 5), "ab", 6, 1);
        patched(priced(2, "ab:6;", 3, 4, 3), "ab", 6, 0);
        patched(priced(2, "ab:7;", 3, 4, 3), "ab", 6, 2);
        patched(priced(2, "", 0, 0, 0), "ab", 0, 2);
    }

    /** From KIND 0 one comes to KIND 1 only by way of KIND 2 or of KINDS 2 and 3. */
    private void wholeWordsLost() {
        due.says("Terms", "(A WORD all letters of which are lost may be put anywhere, too.)");
        RunTogether x = priced(4, "a:1/0;b:1/1;cccccccc:1/2;", 99, 2, 99);
        patched(x, "ab", 2, 0);
        x.follows(0, 1, false);
        patched(x, "ab", 1 + 17 + 1, 8);
        patched(x, "aab", 2 + 17 + 1, 8);
        patched(x, "ba", 2, 0);
        x.price(1, 99);
        patched(x, "ab", 1 + 99, 1);
        x.price(1, 12);
        patched(x, "ab", 1 + 97 + 1, 8);
        x = priced(4, "a:0/0;b:0/1;c:0/2;d:0/3;", 99, 0, 99);
        for (int i = 0; i < 4; i++) {
            for (int j = 0; j < 4; j++) x.follows(i, j, i == (j + 1) % 4);
        }
        patched(x, "aa", 0, 3);
        patched(x, "ab", 0, 2);
        patched(x, "ac", 0, 1);
        patched(x, "ad", 0, 0);
        patched(x, "a".repeat(48), 0, 3 * 47);
    }

    private void kinds() {
        due.says("Terms", "(KINDS FOLLOWING one another as told)");
        RunTogether x = priced(2, "a:1/1;", 99, 99, 7);
        x.follows(1, 1, false);
        patched(x, "a", 1, 0);
        patched(x, "aa", 8, 1);
        patched(x, "aba", 15, 2);
        x.follows(1, 1, true);
        patched(x, "aa", 2, 0);
        patched(x, "aba", 9, 1);
        for (int i = 0; i < 4; i++) {
            for (int j = 0; j < 4; j++) x.follows(i, j, false);
        }
        patched(x, "a", 1, 0);
        patched(x, "aa", 8, 1);
        Told.tell(x, "a:1/0;");
        patched(x, "a", 1, 0);
        patched(x, "aa", 8, 1);
        patched(x, "", 0, 0);
    }

    private void patched() {
        due.says("Promise 23", "PATCHED: what = 0 the least in all, 1 the least number of mistakes at that.");
        patched(new RunTogether(), "", 0, 0);
        patched(new RunTogether(), "a", 5, 1);
        patched(Told.with(2, "a:0;"), "", 0, 0);
        patched(Told.with(2, "a:0;"), "ab", 3, 1);
        patched(priced(2, "a:0;", 5, 5, 5), "ab", 5, 1);
    }

    private void patchedOutside() {
        due.says("Promise 23", "OUTSIDE.");
        for (int what : new int[] {-1, 2, LEAST, MOST}) due.is("patched(" + what + ")", new RunTogether().patched(what), OUTSIDE);
    }
}
