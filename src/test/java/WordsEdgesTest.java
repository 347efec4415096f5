/** The edges that the document names for promises 1 to 8 and for THE TEXT, sentence by sentence. */
public final class WordsEdgesTest {
    private static final int NONE = RunTogether.NONE, UNKNOWN = RunTogether.UNKNOWN;
    private static final int OUTSIDE = RunTogether.OUTSIDE, FULL = RunTogether.FULL;
    private static final int LEAST = Integer.MIN_VALUE, MOST = Integer.MAX_VALUE;
    private final Due due = new Due();

    public static void main(String[] args) {
        WordsEdgesTest test = new WordsEdgesTest();
        test.calls512();
        test.aNewObject();
        test.lettersThatAreThere();
        test.letters();
        test.lettersRefused();
        test.feed();
        test.feedOutside();
        test.feedFull();
        test.text200();
        test.read();
        test.readFaults();
        test.fault();
        test.numbersFrom0On();
        test.words();
        test.clauses();
        test.notTold();
        test.figuresAndBlanks();
        test.fault1();
        test.fault2();
        test.fault3();
        test.fault4();
        test.fault5();
        test.faultsOfOneWord();
        test.word();
        test.wordRefused();
        test.follows();
        test.followsOutside();
        test.count();
        test.countOutside();
        test.due.close();
    }

    private void tells(int k, String text, int answer, int fault) {
        RunTogether x = new RunTogether();
        x.letters(k);
        due.is("read() of [" + text + "] with " + k, Told.tell(x, text), answer);
        due.is("fault() of [" + text + "] with " + k, x.fault(), fault);
        due.is("count(1) behind [" + text + "]", x.count(1), Math.max(answer, 0));
    }

    private void calls512() {
        due.says("What it is", "An object is used for at most 512 calls after it has been made; what later calls answer is free.");
        RunTogether x = Told.with(2, "a;b;");
        for (int call = 4; call < 512; call += 2) {
            due.is("call " + call, x.letter(0), 1);
            due.is("call " + (call + 1), x.clear(), 1);
        }
        due.is("call 512", x.append(1), 1);
    }

    private void aNewObject() {
        due.says("Promise 1", "Two letters, no WORDS; all KINDS may FOLLOW one another.");
        RunTogether x = new RunTogether();
        due.is("count(0)", x.count(0), 2);
        due.is("letter(2)", x.letter(2), OUTSIDE);
        due.is("letter(1)", x.letter(1), 1);
        due.is("letter(0)", x.letter(0), 2);
        due.is("count(1)", x.count(1), 0);
        due.is("word(0, 0)", x.word(0, 0), UNKNOWN);
        due.is("append(0)", x.append(0), UNKNOWN);
        for (int i = 0; i < 4; i++) {
            for (int j = 0; j < 4; j++) due.is("follows(" + i + ", " + j + ", false)", x.follows(i, j, false), 1);
        }
        RunTogether y = new RunTogether();
        due.is("another object is another", y.follows(0, 0, true), 1);
        due.is("another object is another", y.count(2), 0);
    }

    private void lettersThatAreThere() {
        due.says("Terms", "LETTERS are a to h, 0 to 7; the first k (2 .. 8; 2 at first) are there.");
        tells(2, "a;b;", 2, NONE);
        due.is("c at first", Told.tell(new RunTogether(), "c;"), -12);
        for (int k = 2; k <= 8; k++) {
            char last = (char) ('a' + k - 1);
            char next = (char) ('a' + k);
            RunTogether x = Told.with(k, last + ";");
            due.is("the last of " + k + " in a word", x.word(0, 3), k - 1);
            due.is("the last of " + k, x.letter(k - 1), 1);
            due.is("the one behind it", x.letter(k), OUTSIDE);
            tells(k, last + ";" + next + ";", k == 8 ? -11 : -12, 2);
        }
        RunTogether x = Told.with(8, "abcdefgh;");
        for (int i = 0; i < 8; i++) due.is("letter " + i, x.word(0, 3 + i), i);
    }

    private void letters() {
        due.says("Promise 2", "k letters are there; no WORDS, no LINES, THE DRAFT is empty: k.");
        for (int k = 2; k <= 8; k++) {
            RunTogether x = Told.with(3, "ab;c;");
            Told.lines(x, "abc", "c");
            Told.write(x, "abcc");
            x.feed(2, 'a' << 8 | ';');
            due.is("letters(" + k + ")", x.letters(k), k);
            int[] counts = {k, 0, 0, 2, 0};
            for (int what = 0; what < 5; what++) due.is("count(" + what + ") behind letters(" + k + ")", x.count(what), counts[what]);
            due.is("totals() without lines", x.totals(), 0);
            due.is("readings() of nothing", x.readings(), 1);
            due.is("the text stays", x.read(), 1);
        }
        RunTogether x = Told.with(2, Told.SIXTEEN);
        for (int i = 0; i < 48; i++) x.letter(1);
        due.is("from full", x.letters(2), 2);
        due.is("from full", x.clear(), 0);
        due.is("from full", x.word(0, 0), UNKNOWN);
    }

    private void lettersRefused() {
        due.says("Promise 2", "OUTSIDE.");
        for (int k : new int[] {1, 9, 0, -1, -2, LEAST, MOST}) {
            RunTogether x = Told.with(3, "c;");
            x.letter(2);
            due.is("letters(" + k + ")", x.letters(k), OUTSIDE);
            due.is("the letters are there", x.letter(2), 2);
            due.is("the words are there", x.append(0), 3);
        }
    }

    private void feed() {
        due.says("Promise 3", "Up to eight bytes (n 1 .. 8) of a long, the highest of these first, come behind THE TEXT: how many it has.");
        for (int n = 1; n <= 8; n++) {
            RunTogether x = new RunTogether();
            x.letters(8);
            due.is("feed(" + n + ")", x.feed(n, 0x6162636465666768L), n);
            due.is("one more", x.feed(1, 0x6162636465666700L | ';'), n + 1);
            due.is("read()", x.read(), 1);
            due.is("how many letters", x.word(0, 2), n);
            for (int i = 0; i < n; i++) due.is("letter " + i + " of " + n, x.word(0, 3 + i), 8 - n + i);
        }
        for (int sign : new int[] {0, 127, 128, 225, 255}) {
            RunTogether x = new RunTogether();
            x.feed(8, 0x613b623a00000000L | (long) sign << 24);
            due.is("byte " + sign, x.read(), -11);
            due.is("byte " + sign + ": where", x.fault(), 4);
        }
        RunTogether x = new RunTogether();
        x.feed(8, -1L);
        due.is("eight bytes 255", x.read(), -11);
        due.is("eight bytes 255: where", x.fault(), 0);
        x.feed(2, 0xffffffffffff613bL);
        due.is("what is above the bytes is nothing", x.read(), 1);
    }

    private void feedOutside() {
        due.says("Promise 3", "OUTSIDE, FULL.");
        RunTogether x = new RunTogether();
        for (int n : new int[] {0, 9, -1, 16, LEAST, MOST}) due.is("feed(" + n + ")", x.feed(n, 0x613b613b613b613bL), OUTSIDE);
        due.is("count(3)", x.count(3), 0);
    }

    private void blanks(RunTogether x, int n) {
        for (int left = n; left > 0; left -= 8) x.feed(Math.min(left, 8), 0x2020202020202020L);
    }

    private void feedFull() {
        for (int n = 1; n <= 8; n++) {
            RunTogether x = new RunTogether();
            blanks(x, 200 - n);
            due.is("count(3)", x.count(3), 200 - n);
            for (int more = n + 1; more <= 8; more++) due.is((200 - n) + " and " + more, x.feed(more, 0x3f3f3f3f3f3f3f3fL), FULL);
            due.is("nothing of it came", x.count(3), 200 - n);
            due.is((200 - n) + " and " + n, x.feed(n, 0x2020202020202020L), 200);
            due.is("200 and 1", x.feed(1, 0x3f), FULL);
            due.is("200 and 8", x.feed(8, 0x3f3f3f3f3f3f3f3fL), FULL);
            due.is("OUTSIDE ahead of FULL", x.feed(9, 0x3f), OUTSIDE);
            due.is("200 blanks", x.read(), 0);
            due.is("there is room again", x.feed(8, 0x2020202020202020L), 8);
        }
    }

    private void text200() {
        due.says("Terms", "THE TEXT (200 bytes at most) tells WORDS: clause = letter {letter} [':' N] ['/' K] ';'");
        tells(2, " ".repeat(198) + "a;", 1, NONE);
        tells(2, " ".repeat(199) + "a", -11, 200);
        tells(2, " ".repeat(199) + ";", -11, 199);
        tells(2, "a" + " ".repeat(198) + ";", 1, NONE);
        tells(2, "a;" + " ".repeat(198), 1, NONE);
        tells(2, "a" + " ".repeat(199), -11, 200);
        StringBuilder most = new StringBuilder();
        for (int w = 0; w < 16; w++) {
            for (int bit = 6; bit >= 0; bit--) most.append((char) ('a' + (w * 8 + 5 >> bit & 1)));
            most.append(w < 8 ? ":99/3;" : ":0/1;");
        }
        due.is("the longest text", most.length(), 200);
        RunTogether x = new RunTogether();
        due.is("sixteen words of seven letters, with costs and kinds", Told.tell(x, most.toString()), 16);
        due.is("cost of the first", x.word(0, 0), 99);
        due.is("kind of the last", x.word(15, 1), 1);
    }

    private void read() {
        due.says("Promise 4", "THE TEXT (it is empty then) tells all WORDS there are then: how many;");
        RunTogether x = new RunTogether();
        due.is("no bytes", x.read(), 0);
        due.is("one blank", Told.tell(x, " "), 0);
        due.is("sixteen words", Told.tell(x, Told.SIXTEEN), 16);
        due.is("the text is empty then", x.count(3), 0);
        due.is("the last one", x.word(15, 2), 4);
        due.is("one word: the others are gone", Told.tell(x, "bb:2;"), 1);
        due.is("one word: the others are gone", x.word(1, 0), UNKNOWN);
        due.is("it is word 0", x.word(0, 0), 2);
        due.is("no bytes: none is left", x.read(), 0);
        due.is("no bytes: none is left", x.word(0, 0), UNKNOWN);
        Told.lines(x, "ab");
        Told.write(x, "ba");
        Told.tell(x, "a;b;");
        due.is("the draft stays", x.readings(), 1);
        due.is("the draft stays", x.reading(0, 0), 1);
        due.is("lines stay", x.totals(), 2);
    }

    private void readFaults() {
        due.says("Promise 4", "-10 less the number of its FAULT (WORDS are as they were).");
        String[] faults = {"a", "a;c;", "ababababa;", "a;b;a;", Told.SIXTEEN + "bbbb;"};
        for (int number = 1; number <= 5; number++) {
            RunTogether none = new RunTogether();
            due.is("FAULT " + number, Told.tell(none, faults[number - 1]), -10 - number);
            due.is("FAULT " + number + ": there are still no words", none.count(1), 0);
            due.is("FAULT " + number + ": the text is empty", none.count(3), 0);
            RunTogether x = Told.with(2, "ba:98/3;b:0/2;");
            due.is("FAULT " + number, Told.tell(x, faults[number - 1]), -10 - number);
            due.is("FAULT " + number + ": words", x.count(1), 2);
            int[] dues = {98, 3, 2, 1, 0, NONE};
            for (int what = 0; what < 6; what++) due.is("FAULT " + number + ": word(0, " + what + ")", x.word(0, what), dues[what]);
            due.is("FAULT " + number + ": word(1, 0)", x.word(1, 0), 0);
            due.is("FAULT " + number + ": word(1, 1)", x.word(1, 1), 2);
            due.is("a good text behind it", Told.tell(x, "a;"), 1);
            RunTogether full = Told.with(2, Told.SIXTEEN);
            due.is("FAULT " + number, Told.tell(full, faults[number - 1]), -10 - number);
            due.is("FAULT " + number + ": sixteen as they were", full.count(1), 16);
        }
        RunTogether x = Told.with(2, "a:9;b:9;");
        x.learn(1);
        Told.tell(x, "a:3;?");
        due.is("costs that were learnt are as they were", x.word(0, 0), 1);
    }

    private void fault() {
        due.says("Promise 5", "The byte of the FAULT of the latest read(); NONE.");
        RunTogether x = new RunTogether();
        due.is("no read() yet", x.fault(), NONE);
        x.read();
        due.is("a read() without bytes", x.fault(), NONE);
        Told.tell(x, "?");
        due.is("the least byte", x.fault(), 0);
        due.is("asked again", x.fault(), 0);
        Told.tell(x, " ".repeat(199) + "b");
        due.is("the greatest byte: the end of a full text", x.fault(), 200);
        x.letters(5);
        x.feed(1, '?');
        due.is("until the next read()", x.fault(), 200);
        x.read();
        due.is("the latest one", x.fault(), 0);
        Told.tell(x, "a;");
        due.is("the latest one had none", x.fault(), NONE);
    }

    private void numbersFrom0On() {
        due.says("Terms", "What has a number has it from 0 on, as it comes.");
        RunTogether x = Told.with(3, "c;b;a;");
        for (int w = 0; w < 3; w++) due.is("word(" + w + ", 3)", x.word(w, 3), 2 - w);
        x.append(0);
        x.append(2);
        due.is("WORD 0 of READING 0", x.reading(0, 0), 0);
        due.is("WORD 1 of READING 0", x.reading(0, 1), 2);
    }

    private void words() {
        due.says("Terms", "WORDS (16 at most) are unlike ROWS of 1 to 8 letters, each with a COST (0 .. 99) and a KIND (0 .. 3).");
        tells(2, Told.SIXTEEN, 16, NONE);
        tells(2, Told.SIXTEEN + "abab;", -15, Told.SIXTEEN.length());
        tells(2, "a;", 1, NONE);
        tells(2, "abababab;", 1, NONE);
        tells(2, "ababababb;", -13, 8);
        tells(2, "a;aa;aaa;aaaa;aaaaa;aaaaaa;aaaaaaa;aaaaaaaa;", 8, NONE);
        tells(2, "aaaaaaaa;aaaaaaab;baaaaaaa;", 3, NONE);
        tells(2, "aaaaaaaa;aaaaaaab;aaaaaaaa;", -14, 18);
        for (int cost = 0; cost <= 99; cost++) {
            RunTogether x = Told.with(2, "b;a:" + cost + ";");
            due.is("cost " + cost, x.word(1, 0), cost);
            due.is("its own alone", x.word(0, 0), 1);
        }
        tells(2, "a:100;", -12, 2);
        for (int kind = 0; kind <= 9; kind++) {
            tells(2, "a/" + kind + ";", kind <= 3 ? 1 : -12, kind <= 3 ? NONE : 2);
            if (kind <= 3) due.is("kind " + kind, Told.with(2, "a/" + kind + ";").word(0, 1), kind);
        }
    }

    private void clauses() {
        due.says("Terms", "clause = letter {letter} [':' N] ['/' K] ';'");
        tells(2, "", 0, NONE);
        tells(2, "a;b;ab:5;ba/2;aa:5/2;", 5, NONE);
        for (String text : new String[] {"a;", "ab;", "a:0;", "a/0;", "a:0/0;", "ab:99/3;"}) {
            tells(2, text, 1, NONE);
            for (int cut = 1; cut < text.length(); cut++) tells(2, text.substring(0, cut), -11, cut);
        }
        tells(2, ";", -11, 0);
        tells(2, "a;;", -11, 2);
        tells(2, ":1;", -11, 0);
        tells(2, "/1;", -11, 0);
        tells(2, "a:;", -11, 2);
        tells(2, "a/;", -11, 2);
        tells(2, "a:/1;", -11, 2);
        tells(2, "a:1:1;", -11, 3);
        tells(2, "a/1/1;", -11, 3);
        tells(2, "a/1:1;", -11, 3);
        tells(2, "a:1a;", -11, 3);
        tells(2, "a/1a;", -11, 3);
        tells(2, "a1;", -11, 1);
    }

    private void notTold() {
        due.says("Terms", "COST N is 1, KIND K 0, if they are not told.");
        RunTogether x = Told.with(2, "a:7/3;b;aa/2;ab:5;");
        int[][] dues = {{7, 3}, {1, 0}, {1, 2}, {5, 0}};
        for (int w = 0; w < 4; w++) {
            due.is("cost of " + w, x.word(w, 0), dues[w][0]);
            due.is("kind of " + w, x.word(w, 1), dues[w][1]);
        }
        Told.tell(x, "b;a:5;ab/3;");
        int[][] duesThen = {{1, 0}, {5, 0}, {1, 3}};
        for (int w = 0; w < 3; w++) {
            due.is("nothing is left of words of before: cost of " + w, x.word(w, 0), duesThen[w][0]);
            due.is("nothing is left of words of before: kind of " + w, x.word(w, 1), duesThen[w][1]);
        }
        Told.tell(x, "a:9/2;b:9/2;?");
        Told.tell(x, "a;b;");
        due.is("nor of words that did not come to be: cost", x.word(1, 0), 1);
        due.is("nor of words that did not come to be: kind", x.word(1, 1), 0);
    }

    private void figuresAndBlanks() {
        due.says("Terms", "N has one or two figures, K one; blanks (32) may stand anywhere but within N.");
        String[] figures = {"0", "9", "00", "01", "09", "10", "99"};
        int[] costs = {0, 9, 0, 1, 9, 10, 99};
        for (int i = 0; i < figures.length; i++) {
            due.is("N " + figures[i], Told.with(2, "a:" + figures[i] + ";").word(0, 0), costs[i]);
        }
        String[] parts = {"a", "b", ":", "42", "/", "3", ";", "b", ";"};
        for (int gap = 0; gap <= parts.length; gap++) {
            for (String blank : new String[] {" ", "   "}) {
                StringBuilder text = new StringBuilder();
                for (int i = 0; i < parts.length; i++) text.append(i == gap ? blank : "").append(parts[i]);
                if (gap == parts.length) text.append(blank);
                RunTogether x = new RunTogether();
                due.is("read() of [" + text + "]", Told.tell(x, text.toString()), 2);
                due.is("cost in [" + text + "]", x.word(0, 0), 42);
                due.is("kind in [" + text + "]", x.word(0, 1), 3);
                due.is("letters in [" + text + "]", x.word(0, 2), 2);
            }
        }
        tells(2, "a:4 2;", -11, 4);
        tells(2, "a:4  2;", -11, 5);
        tells(2, "a:42 1;", -11, 5);
        tells(2, "a: 4 2 ;", -11, 5);
        tells(2, "a/1 2;", -11, 4);
        for (int sign : new int[] {0, 9, 10, 13, 31, 33, 160}) tells(2, "a" + (char) sign + ";", -11, 1);
    }

    private void fault1() {
        due.says("Terms", "FAULTS, at the first byte that has one (the end at the text's length), of these the least: 1 it cannot stand there.");
        tells(2, "a;b?;ab?;", -11, 3);
        tells(2, "a;b?;c;", -11, 3);
        tells(2, "a;c;b?;", -12, 2);
        tells(2, "a", -11, 1);
        tells(2, "ab:7/3", -11, 6);
        tells(2, "a;b:", -11, 4);
        tells(2, "a;b/", -11, 4);
        tells(2, "a;  ", 1, NONE);
        tells(8, "i;", -11, 0);
        tells(8, "`;", -11, 0);
        tells(8, "ai;", -11, 1);
        tells(8, "A;", -11, 0);
        tells(8, "a,b;", -11, 1);
        tells(8, "a:x;", -11, 2);
        tells(8, "a:-1;", -11, 2);
        tells(8, "a::1;", -11, 2);
        tells(8, "a://1;", -11, 2);
        tells(8, "a:<;", -11, 2);
    }

    private void fault2() {
        due.says("Terms", "2 an N of three figures or more, a K of two or more, or above 3 (at the first figure), a letter up to h that is not there.");
        tells(2, "a:100;", -12, 2);
        tells(2, "a:000;", -12, 2);
        tells(2, "a:  001;", -12, 4);
        tells(2, "a:1000;", -12, 2);
        tells(2, "a:100", -12, 2);
        tells(2, "a:100?", -12, 2);
        tells(2, "a:" + "9".repeat(60) + ";", -12, 2);
        tells(2, "a:99;b:100;", -12, 7);
        tells(2, "a/4;", -12, 2);
        tells(2, "a/9;", -12, 2);
        tells(2, "a/ 4;", -12, 3);
        tells(2, "a/00;", -12, 2);
        tells(2, "a/10;", -12, 2);
        tells(2, "a/4", -12, 2);
        tells(2, "a/123456789012345678901;", -12, 2);
        tells(2, "a:100/4;", -12, 2);
        tells(2, "a:99/4;", -12, 5);
        for (int k = 2; k < 8; k++) {
            for (char c = (char) ('a' + k); c <= 'h'; c++) {
                tells(k, c + ";", -12, 0);
                tells(k, "ab" + c, -12, 2);
            }
        }
        tells(2, "a:c;", -11, 2);
        tells(2, "a/1c;", -11, 3);
    }

    private void fault3() {
        due.says("Terms", "3 a ninth letter of a WORD.");
        tells(2, "aaaaaaaa;", 1, NONE);
        tells(2, "aaaaaaaaa;", -13, 8);
        tells(2, "aaaaaaaab", -13, 8);
        tells(2, "a a a a a a a a   a;", -13, 18);
        tells(2, "b;aaaaaaaaaaaaaaa;", -13, 10);
        tells(2, "aaaaaaaa?", -11, 8);
        tells(2, "aaaaaaaac;", -12, 8);
        tells(8, "aaaaaaaai;", -11, 8);
        tells(2, "aaaaaaaa", -11, 8);
    }

    private void fault4() {
        due.says("Terms", "4 a WORD again (at its first letter).");
        tells(2, "a;a;", -14, 2);
        tells(2, "a;  a;", -14, 4);
        tells(2, "ab;b;aa;a b;", -14, 8);
        tells(2, "ab:5/1;ab:6/2;", -14, 7);
        tells(2, "ab;ab:100;", -14, 3);
        tells(2, "ab;ab/4;", -14, 3);
        tells(2, "ab;ab?;", -14, 3);
        tells(2, "ab;ab", -14, 3);
        tells(2, "ab;aba;", 2, NONE);
        tells(2, "ab;a;", 2, NONE);
        tells(2, "ab;ba;", 2, NONE);
        tells(2, Told.SIXTEEN.substring(0, Told.SIXTEEN.length() - 5) + "a;", -14, Told.SIXTEEN.length() - 5);
    }

    private void fault5() {
        due.says("Terms", "5 a seventeenth WORD (at its first letter).");
        int at = Told.SIXTEEN.length();
        tells(2, Told.SIXTEEN + "abab;", -15, at);
        tells(2, Told.SIXTEEN + "abab", -15, at);
        tells(2, Told.SIXTEEN + "   b", -15, at + 3);
        tells(2, Told.SIXTEEN + "   ", 16, NONE);
        tells(2, Told.SIXTEEN + ";", -11, at);
        tells(2, Told.SIXTEEN + "1", -11, at);
        tells(2, Told.SIXTEEN + "?", -11, at);
        tells(2, Told.SIXTEEN + "i", -11, at);
        tells(2, Told.SIXTEEN + "c;", -12, at);
    }

    private void faultsOfOneWord() {
        due.says("Terms", "(A letter that is not there, or is a ninth one, is told where it stands, ahead of what is told of its WORD as a whole at its end; of that WORD's whole 5 is told as soon as it begins.)");
        tells(2, "ab;abc;", -12, 5);
        tells(2, "ab;ab c;", -12, 6);
        tells(2, "aaaaaaaa;aaaaaaaaa;", -13, 17);
        tells(2, "aaaaaaaa;aaaaaaaac;", -12, 17);
        tells(2, "aaaaaaaa;aaaaaaaa;", -14, 9);
        int at = Told.SIXTEEN.length();
        tells(2, Told.SIXTEEN + "a;", -15, at);
        tells(2, Told.SIXTEEN + "ac;", -15, at);
        tells(2, Told.SIXTEEN + "aaaaaaaaa;", -15, at);
        tells(2, Told.SIXTEEN + "a?", -15, at);
        tells(2, Told.SIXTEEN + "bbbb:100;", -15, at);
        tells(2, Told.SIXTEEN + "ca;", -12, at);
    }

    private void word() {
        due.says("Promise 6", "Of a WORD: what = 0 COST, 1 KIND, 2 how many letters, 3 and i its letter i (NONE).");
        RunTogether x = Told.with(8, "hgfedcba:99/3;a:0/0;");
        int[] first = {99, 3, 8, 7, 6, 5, 4, 3, 2, 1, 0};
        int[] second = {0, 0, 1, 0, NONE, NONE, NONE, NONE, NONE, NONE, NONE};
        for (int what = 0; what <= 10; what++) {
            due.is("word(0, " + what + ")", x.word(0, what), first[what]);
            due.is("word(1, " + what + ")", x.word(1, what), second[what]);
        }
        Told.tell(x, "ab;");
        due.is("no letter of an earlier word", x.word(0, 5), NONE);
    }

    private void wordRefused() {
        due.says("Promise 6", "UNKNOWN, OUTSIDE (what 0 .. 10).");
        RunTogether x = Told.with(2, "ab;b;");
        for (int what : new int[] {-1, 11, LEAST, MOST}) {
            due.is("word(1, " + what + ")", x.word(1, what), OUTSIDE);
            due.is("word(2, " + what + ")", x.word(2, what), UNKNOWN);
            due.is("word(-1, " + what + ")", x.word(-1, what), UNKNOWN);
        }
        for (int w : new int[] {-1, 2, 15, 16, LEAST, MOST, 1 << 29}) due.is("word(" + w + ", 3)", x.word(w, 3), UNKNOWN);
        Told.tell(x, Told.SIXTEEN);
        due.is("word(15, 10)", x.word(15, 10), NONE);
        due.is("word(16, 0)", x.word(16, 0), UNKNOWN);
    }

    private void follows() {
        due.says("Promise 7", "Whether KIND j FOLLOWS KIND i becomes is: what it was (1, 0).");
        due.says("Terms", "FOLLOWS: which KINDS j may come right behind which KINDS i (all at first).");
        for (int i = 0; i < 4; i++) {
            for (int j = 0; j < 4; j++) {
                RunTogether x = Told.with(2, "a/" + i + ";b/" + j + ";");
                Told.write(x, "ab");
                due.is("at first", x.readings(), 1);
                due.is("follows(" + i + ", " + j + ", false)", x.follows(i, j, false), 1);
                due.is("b not behind a", x.readings(), 0);
                Told.write(x, "ba");
                due.is("a behind b", x.readings(), i == j ? 0 : 1);
                due.is("no more", x.follows(i, j, false), 0);
                for (int u = 0; u < 4; u++) {
                    for (int v = 0; v < 4; v++) {
                        if (u != i || v != j) due.is("all others stay", x.follows(u, v, true), 1);
                    }
                }
                due.is("back", x.follows(i, j, true), 0);
                due.is("it is", x.follows(i, j, true), 1);
            }
        }
    }

    private void followsOutside() {
        due.says("Promise 7", "OUTSIDE.");
        RunTogether x = new RunTogether();
        for (int i : new int[] {-1, 4, LEAST, MOST}) {
            for (int j : new int[] {0, 3, -1, 4}) {
                due.is("follows(" + i + ", " + j + ", false)", x.follows(i, j, false), OUTSIDE);
                due.is("follows(" + j + ", " + i + ", false)", x.follows(j, i, false), OUTSIDE);
            }
        }
        for (int i = 0; i < 4; i++) {
            for (int j = 0; j < 4; j++) due.is("as it was", x.follows(i, j, true), 1);
        }
    }

    private void count() {
        due.says("Promise 8", "How many: 0 letters there are, 1 WORDS, 2 letters of THE DRAFT, 3 bytes of THE TEXT, 4 LINES.");
        RunTogether x = new RunTogether();
        int[] empty = {2, 0, 0, 0, 0};
        for (int what = 0; what < 5; what++) due.is("empty: count(" + what + ")", x.count(what), empty[what]);
        x.letters(8);
        Told.tell(x, Told.SIXTEEN);
        Told.lines(x, "a", "b", "c", "d");
        for (int i = 0; i < 12; i++) x.append(15);
        blanks(x, 200);
        int[] full = {8, 16, 48, 200, 4};
        for (int what = 0; what < 5; what++) due.is("full: count(" + what + ")", x.count(what), full[what]);
    }

    private void countOutside() {
        due.says("Promise 8", "OUTSIDE.");
        for (int what : new int[] {-1, 5, LEAST, MOST}) due.is("count(" + what + ")", new RunTogether().count(what), OUTSIDE);
    }
}
