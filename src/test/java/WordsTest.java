/** Promises 1 to 8: letters, THE TEXT and its FAULTS, WORDS, FOLLOWS. */
public final class WordsTest {
    private static final int NONE = RunTogether.NONE, UNKNOWN = RunTogether.UNKNOWN;
    private static final int OUTSIDE = RunTogether.OUTSIDE, FULL = RunTogether.FULL;
    private final Due due = new Due();

    public static void main(String[] args) {
        WordsTest test = new WordsTest();
        test.promise1();
        test.promise2();
        test.promise3();
        test.promise4();
        test.faults();
        test.promise5();
        test.promise6();
        test.promise7();
        test.promise8();
        test.due.close();
    }

    private void promise1() {
        RunTogether x = new RunTogether();
        due.is("1 letters", x.count(0), 2);
        due.is("1 words", x.count(1), 0);
        due.is("1 draft", x.count(2), 0);
        due.is("1 text", x.count(3), 0);
        due.is("1 lines", x.count(4), 0);
        due.is("1 fault", x.fault(), NONE);
        for (int i = 0; i < 4; i++) {
            for (int j = 0; j < 4; j++) due.is("1 follows " + i + " " + j, x.follows(i, j, true), 1);
        }
        due.is("1 price of another letter", x.price(0, 3), 3);
        due.is("1 price of a lost letter", x.price(1, 4), 4);
        due.is("1 price of a strange letter", x.price(2, 5), 5);
        due.is("1 reading of nothing", x.readings(), 1);
        RunTogether y = new RunTogether();
        y.letters(5);
        due.is("1 objects are apart", x.count(0), 2);
    }

    private void promise2() {
        RunTogether x = new RunTogether();
        for (int k : new int[] {1, 0, -1, 9, Integer.MIN_VALUE, Integer.MAX_VALUE}) {
            due.is("2 letters(" + k + ")", x.letters(k), OUTSIDE);
        }
        for (int k = 2; k <= 8; k++) {
            due.is("2 letters(" + k + ")", x.letters(k), k);
            due.is("2 count(0)", x.count(0), k);
            due.is("2 the last letter", x.letter(k - 1), 1);
            due.is("2 the one behind it", x.letter(k), OUTSIDE);
        }
        Told.tell(x, "ab:7/2;h;");
        Told.lines(x, "ab", "h");
        Told.write(x, "abh");
        x.follows(1, 2, false);
        x.price(1, 77);
        x.feed(2, 'a' << 8 | '?');
        due.is("2 refused", x.letters(9), OUTSIDE);
        due.is("2 refused: words stay", x.count(1), 2);
        due.is("2 refused: lines stay", x.count(4), 2);
        due.is("2 refused: the draft stays", x.count(2), 3);
        due.is("2 the same number again", x.letters(8), 8);
        due.is("2 no words", x.count(1), 0);
        due.is("2 no word", x.word(0, 0), UNKNOWN);
        due.is("2 no lines", x.count(4), 0);
        due.is("2 no draft", x.count(2), 0);
        due.is("2 the text stays", x.count(3), 2);
        due.is("2 follows stays", x.follows(1, 2, true), 0);
        due.is("2 prices stay", x.price(1, 4), 77);
        due.is("2 the text stays: read", x.read(), -11);
        due.is("2 the text stays: fault", x.fault(), 1);
        x.letters(3);
        due.is("2 the fault stays", x.fault(), 1);
    }

    private void promise3() {
        RunTogether x = new RunTogether();
        for (int n : new int[] {0, -1, 9, Integer.MIN_VALUE, Integer.MAX_VALUE}) {
            due.is("3 feed(" + n + ")", x.feed(n, 0x6161616161616161L), OUTSIDE);
        }
        due.is("3 nothing came", x.count(3), 0);
        due.is("3 only the low bytes, the highest first", x.feed(3, 0xffffffffff61623bL), 3);
        due.is("3 one byte", x.feed(1, 0x3f3f3f3f3f3f3f62L), 4);
        due.is("3 eight bytes", x.feed(8, 0x613b203a2f2f2f2fL), 12);
        due.is("3 read", x.read(), -11);
        due.is("3 the bytes stand in their order", x.fault(), 8 - 1);
        x.feed(3, 0x61623bL);
        x.feed(3, 0x62613bL);
        due.is("3 two words", x.read(), 2);
        due.is("3 ab", x.word(0, 3), 0);
        due.is("3 ab", x.word(0, 4), 1);
        due.is("3 ba", x.word(1, 3), 1);
        for (int i = 1; i <= 25; i++) due.is("3 up to 200", x.feed(8, 0x2020202020202020L), 8 * i);
        due.is("3 the 201st", x.feed(1, 32), FULL);
        due.is("3 OUTSIDE ahead of FULL", x.feed(0, 32), OUTSIDE);
        due.is("3 still 200", x.count(3), 200);
        due.is("3 200 blanks tell no words", x.read(), 0);
        due.is("3 empty then", x.count(3), 0);
        for (int i = 1; i <= 24; i++) x.feed(8, 0x2020202020202020L);
        x.feed(4, 0x20202020L);
        due.is("3 196 and 5", x.feed(5, 0x2020202020L), FULL);
        due.is("3 nothing of it came", x.count(3), 196);
        due.is("3 196 and 4", x.feed(4, 0x20613b20L), 200);
        due.is("3 one word in 200 bytes", x.read(), 1);
    }

    private void promise4() {
        RunTogether x = new RunTogether();
        due.is("4 nothing tells no words", x.read(), 0);
        due.is("4 words", Told.tell(x, "a;ab:0;ba/3;bb:99/1;b:7;"), 5);
        int[][] costAndKind = {{1, 0}, {0, 0}, {1, 3}, {99, 1}, {7, 0}};
        for (int w = 0; w < 5; w++) {
            due.is("4 cost of " + w, x.word(w, 0), costAndKind[w][0]);
            due.is("4 kind of " + w, x.word(w, 1), costAndKind[w][1]);
        }
        Told.lines(x, "ab");
        Told.write(x, "ba");
        due.is("4 blanks", Told.tell(x, "  a b a : 07  / 2 ;  b b;  "), 2);
        due.is("4 blanks: length", x.word(0, 2), 3);
        due.is("4 blanks: cost", x.word(0, 0), 7);
        due.is("4 blanks: kind", x.word(0, 1), 2);
        due.is("4 the words of before are gone", x.word(2, 0), UNKNOWN);
        due.is("4 lines stay", x.count(4), 1);
        due.is("4 the draft stays", x.count(2), 2);
        due.is("4 a fault", Told.tell(x, "a;a;"), -14);
        due.is("4 words are as they were", x.count(1), 2);
        due.is("4 words are as they were", x.word(0, 2), 3);
        due.is("4 words are as they were", x.word(0, 0), 7);
        due.is("4 the text is empty", x.count(3), 0);
        due.is("4 a word of before may be told again", Told.tell(x, "aba;"), 1);
        due.is("4 nothing tells that there are none", x.read(), 0);
        due.is("4 none", x.count(1), 0);
        x.letters(8);
        due.is("4 sixteen words of eight letters", Told.tell(x, sixteen()), 16);
        due.is("4 the last one", x.word(15, 10), 7);
        due.is("4 eight letters", x.word(15, 2), 8);
    }

    private static String sixteen() {
        StringBuilder text = new StringBuilder();
        for (int i = 0; i < 16; i++) {
            text.append("abcdef").append((char) ('a' + i / 2)).append(i == 15 ? 'h' : i % 2 == 0 ? 'a' : 'b').append(";");
        }
        return text.toString();
    }

    private void fault(int k, String text, int number, int at) {
        RunTogether x = new RunTogether();
        x.letters(k);
        due.is("4 read() of [" + text + "] with " + k, Told.tell(x, text), -10 - number);
        due.is("5 fault() of [" + text + "] with " + k, x.fault(), at);
        due.is("4 no words of [" + text + "]", x.count(1), 0);
    }

    private void faults() {
        fault(2, ";", 1, 0);
        fault(2, " ;", 1, 1);
        fault(2, "a;;", 1, 2);
        fault(2, ":1;", 1, 0);
        fault(2, "/1;", 1, 0);
        fault(2, "1;", 1, 0);
        fault(8, "i;", 1, 0);
        fault(8, "ai;", 1, 1);
        fault(8, "A;", 1, 0);
        fault(8, "a\t;", 1, 1);
        fault(8, "a\u0000;", 1, 1);
        fault(8, "a;\u00e1;", 1, 2);
        fault(8, "a;`;", 1, 2);
        fault(2, "a", 1, 1);
        fault(2, "a  ", 1, 3);
        fault(2, "a:", 1, 2);
        fault(2, "a: ", 1, 3);
        fault(2, "a:1", 1, 3);
        fault(2, "a/", 1, 2);
        fault(2, "a/1", 1, 3);
        fault(2, "a:;", 1, 2);
        fault(2, "a: /1;", 1, 3);
        fault(2, "a/;", 1, 2);
        fault(2, "a::1;", 1, 2);
        fault(2, "a//1;", 1, 2);
        fault(2, "a:1:1;", 1, 3);
        fault(2, "a/1/1;", 1, 3);
        fault(2, "a/1:1;", 1, 3);
        fault(2, "a1;", 1, 1);
        fault(2, "a:1b;", 1, 3);
        fault(2, "a:b;", 1, 2);
        fault(2, "a:1 2;", 1, 4);
        fault(2, "a:12 3;", 1, 5);
        fault(2, "a/1 b;", 1, 4);
        fault(2, "a/1 2;", 1, 4);
        fault(2, "a:-1;", 1, 2);
        fault(2, "a:100;", 2, 2);
        fault(2, "a: 001;", 2, 3);
        fault(2, "a:1234567890123456789012345;", 2, 2);
        fault(2, "a:100?", 2, 2);
        fault(2, "a/4;", 2, 2);
        fault(2, "a/ 9;", 2, 3);
        fault(2, "a/12;", 2, 2);
        fault(2, "a/00;", 2, 2);
        fault(2, "c;", 2, 0);
        fault(2, "abh;", 2, 2);
        fault(7, "abh;", 2, 2);
        fault(2, "a:c;", 1, 2);
        fault(2, "a:1c;", 1, 3);
        fault(2, "a;h:1?", 2, 2);
        fault(2, "ababababa;", 3, 8);
        fault(2, "a b a b a b a b  a;", 3, 17);
        fault(2, "ababababc;", 2, 8);
        fault(2, "abababab;ababababa;", 3, 17);
        fault(2, "ab;abc;", 2, 5);
        fault(2, "a;a;", 4, 2);
        fault(2, "a; a ;", 4, 3);
        fault(2, "ab;b;a b;", 4, 5);
        fault(2, "ab;ab:100;", 4, 3);
        fault(2, "ab;ab/9;", 4, 3);
        fault(2, "ab;ab?;", 4, 3);
        fault(2, "ab;ab", 4, 3);
        fault(2, "a:1;a:2/3;", 4, 4);
        String sixteen = "a;b;aa;ab;ba;bb;aaa;aab;aba;abb;baa;bab;bba;bbb;aaaa;aaab;";
        fault(2, sixteen + "bbbb;", 5, 58);
        fault(2, sixteen + "  bbbb;", 5, 60);
        fault(2, sixteen + "bc;", 5, 58);
        fault(2, sixteen + "a;", 5, 58);
        fault(2, sixteen + "ababababa;", 5, 58);
        fault(2, sixteen + "c;", 2, 58);
        fault(2, sixteen + ";", 1, 58);
    }

    private void promise5() {
        RunTogether x = new RunTogether();
        due.is("5 no read", x.fault(), NONE);
        Told.tell(x, "a;?");
        due.is("5 a fault", x.fault(), 2);
        due.is("5 again", x.fault(), 2);
        x.feed(1, 'b');
        x.letters(4);
        due.is("5 until the next read", x.fault(), 2);
        x.feed(1, ';');
        due.is("5 read", x.read(), 1);
        due.is("5 none", x.fault(), NONE);
    }

    private void promise6() {
        RunTogether x = new RunTogether();
        due.is("6 no words", x.word(0, 0), UNKNOWN);
        x.letters(8);
        Told.tell(x, "hgfedcba:98/3;c;");
        due.is("6 cost", x.word(0, 0), 98);
        due.is("6 kind", x.word(0, 1), 3);
        due.is("6 length", x.word(0, 2), 8);
        for (int i = 0; i < 8; i++) due.is("6 letter " + i, x.word(0, 3 + i), 7 - i);
        due.is("6 c", x.word(1, 3), 2);
        for (int i = 1; i < 8; i++) due.is("6 no letter " + i, x.word(1, 3 + i), NONE);
        for (int what : new int[] {-1, 11, Integer.MIN_VALUE, Integer.MAX_VALUE}) {
            due.is("6 word(0, " + what + ")", x.word(0, what), OUTSIDE);
            due.is("6 word(2, " + what + ")", x.word(2, what), UNKNOWN);
        }
        for (int w : new int[] {-1, 2, 16, Integer.MIN_VALUE, Integer.MAX_VALUE}) {
            due.is("6 word(" + w + ", 0)", x.word(w, 0), UNKNOWN);
        }
    }

    private void promise7() {
        RunTogether x = new RunTogether();
        due.is("7 it was", x.follows(3, 0, false), 1);
        due.is("7 it was not", x.follows(3, 0, false), 0);
        due.is("7 the other way is another", x.follows(0, 3, true), 1);
        due.is("7 it was not", x.follows(3, 0, true), 0);
        due.is("7 it is again", x.follows(3, 0, true), 1);
        for (int i : new int[] {-1, 4, Integer.MIN_VALUE, Integer.MAX_VALUE}) {
            due.is("7 follows(" + i + ", 0)", x.follows(i, 0, false), OUTSIDE);
            due.is("7 follows(0, " + i + ")", x.follows(0, i, false), OUTSIDE);
        }
        for (int i = 0; i < 4; i++) {
            for (int j = 0; j < 4; j++) due.is("7 nothing changed", x.follows(i, j, true), 1);
        }
    }

    private void promise8() {
        RunTogether x = Told.with(5, "a;bcd;e:3;");
        Told.lines(x, "abc", "e");
        Told.write(x, "edcb");
        x.feed(6, 0);
        int[] counts = {5, 3, 4, 6, 2};
        for (int what = 0; what < 5; what++) due.is("8 count(" + what + ")", x.count(what), counts[what]);
        for (int what : new int[] {-1, 5, Integer.MIN_VALUE, Integer.MAX_VALUE}) {
            due.is("8 count(" + what + ")", x.count(what), OUTSIDE);
        }
    }
}
