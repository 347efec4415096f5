/** Promises 22 and 23: prices, PATCHED. */
public final class MistakesTest {
    private static final int OUTSIDE = RunTogether.OUTSIDE;
    private final Due due = new Due();

    public static void main(String[] args) {
        MistakesTest test = new MistakesTest();
        test.promise22();
        test.promise23();
        test.kinds();
        test.due.close();
    }

    private void promise22() {
        RunTogether x = new RunTogether();
        int[] first = {3, 4, 5};
        for (int what = 0; what < 3; what++) {
            due.is("22 it was", x.price(what, 0), first[what]);
            due.is("22 it was", x.price(what, 99), 0);
            due.is("22 too much", x.price(what, 100), OUTSIDE);
            due.is("22 too little", x.price(what, -1), OUTSIDE);
            due.is("22 refused changes nothing", x.price(what, 10 + what), 99);
        }
        for (int what : new int[] {-1, 3, Integer.MIN_VALUE, Integer.MAX_VALUE}) {
            due.is("22 price(" + what + ")", x.price(what, 1), OUTSIDE);
            due.is("22 price(0, " + what + ")", x.price(0, what == 3 ? 100 : what), OUTSIDE);
        }
        for (int what = 0; what < 3; what++) due.is("22 each its own", x.price(what, 1), 10 + what);
    }

    private void patched(RunTogether x, String row, int least, int mistakes) {
        Told.write(x, row);
        due.is("23 patched(0) of " + row, x.patched(0), least);
        due.is("23 patched(1) of " + row, x.patched(1), mistakes);
    }

    private void promise23() {
        RunTogether x = new RunTogether();
        for (int what : new int[] {-1, 2, Integer.MIN_VALUE, Integer.MAX_VALUE}) {
            due.is("23 patched(" + what + ")", x.patched(what), OUTSIDE);
        }
        patched(x, "", 0, 0);
        patched(x, "ab", 10, 2);
        x = Told.with(3, "abc:2;");
        patched(x, "", 0, 0);
        patched(x, "abc", 2, 0);
        patched(x, "abb", 5, 1);
        patched(x, "ac", 6, 1);
        patched(x, "bc", 6, 1);
        patched(x, "ab", 6, 1);
        patched(x, "a", 5, 1);
        patched(x, "abac", 7, 1);
        patched(x, "babc", 7, 1);
        patched(x, "abcb", 7, 1);
        patched(x, "abcabc", 4, 0);
        patched(x, "abcacabb", 2 + 2 + 4 + 2 + 3, 2);
        patched(x, "bbb", 2 + 2 * 3, 2);
        x.price(0, 99);
        patched(x, "abb", 2 + 4 + 5, 2);
        x.price(2, 0);
        patched(x, "abb", 0, 3);
        patched(x, "abc", 0, 3);
        Told.tell(x, "abc:0;");
        patched(x, "abc", 0, 0);
        patched(x, "abacb", 0, 2);
        x.price(0, 0);
        patched(x, "bbb", 0, 2);
        x = Told.with(2, "a:0;b:9;");
        x.price(0, 0);
        patched(x, "ba", 0, 1);
        x.price(0, 9);
        x.price(2, 9);
        patched(x, "ba", 9, 0);
        x = Told.with(2, "a:99;");
        x.price(2, 99);
        patched(x, "a".repeat(48), 48 * 99, 0);
        patched(x, "b".repeat(48), 48 * 99, 48);
        x = Told.with(8, "abcdefgh:9;");
        x.price(1, 0);
        patched(x, "", 0, 0);
        patched(x, "d", 5, 1);
        x.price(2, 50);
        patched(x, "d", 9, 7);
        x.price(0, 0);
        patched(x, "hh", 9, 7);
    }

    /** A WORD all letters of which are lost may lead from one KIND to another. */
    private void kinds() {
        RunTogether x = Told.with(2, "a:1/0;b:1/1;");
        x.price(0, 99);
        x.price(1, 2);
        x.price(2, 99);
        patched(x, "aa", 2, 0);
        x.follows(0, 0, false);
        patched(x, "aa", 2 + 1 + 2, 1);
        x.follows(0, 1, false);
        patched(x, "aa", 1 + 99, 1);
        x.follows(0, 0, true);
        patched(x, "aa", 2, 0);
        x = Told.with(4, "a:1/0;b:1/1;c:1/2;dd:1/3;");
        x.price(0, 99);
        x.price(1, 2);
        x.price(2, 99);
        for (int i = 0; i < 4; i++) {
            for (int j = 0; j < 4; j++) x.follows(i, j, j == (i + 1) % 4);
        }
        patched(x, "ab", 2, 0);
        patched(x, "aa", 1 + (1 + 2) + (1 + 2) + (1 + 4) + 1, 4);
        patched(x, "acb", 1 + (1 + 2) + 1 + (1 + 4) + (1 + 2) + 1, 4);
        patched(x, "dda", 2, 0);
        patched(x, "ad", 1 + (1 + 2) + (1 + 2) + (1 + 2), 3);
        x.price(1, 0);
        Told.tell(x, "a:0/0;b:0/1;c:0/2;dd:0/3;");
        patched(x, "", 0, 0);
        patched(x, "aa", 0, 4);
        patched(x, "ba", 0, 3);
        Told.tell(x, "a:0/0;");
        patched(x, "aa", 99, 1);
        x.price(2, 3);
        patched(x, "aba", 6, 2);
        x.follows(0, 0, true);
        patched(x, "aba", 3, 1);
    }
}
