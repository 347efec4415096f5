import java.util.function.Supplier;

/** REFUSALS: which one is answered where several meet, and that what is refused changes nothing. */
public final class RefusalsTest {
    private static final int NONE = RunTogether.NONE, UNKNOWN = RunTogether.UNKNOWN, OUTSIDE = RunTogether.OUTSIDE;
    private static final int NOT = RunTogether.NOT, FULL = RunTogether.FULL, LARGE = RunTogether.LARGE;
    private static final int LEAST = Integer.MIN_VALUE, MOST = Integer.MAX_VALUE;
    private static final long TEN15 = 1000000000000000L;
    private final Due due = new Due();

    private interface Call {
        long on(RunTogether x);
    }

    public static void main(String[] args) {
        RefusalsTest test = new RefusalsTest();
        test.constants();
        test.unknownAheadOfOutside();
        test.unknownAheadOfFull();
        test.outsideAheadOfNot();
        test.outsideAheadOfFull();
        test.outsideAheadOfLarge();
        test.refusedInAnyState(RunTogether::new, 2, 0, 0);
        test.refusedInAnyState(RefusalsTest::busy, 3, 3, 5);
        test.refusedInAnyState(RefusalsTest::full, 2, 16, 48);
        test.withoutWords();
        test.whereNothingMoreGoes();
        test.large();
        test.askingChangesNothing(RefusalsTest::busy);
        test.askingChangesNothing(RefusalsTest::full);
        test.faultsChangeNoWords();
        test.due.close();
    }

    /** A bit of everything, and nothing of it as it is at first. */
    private static RunTogether busy() {
        RunTogether x = new RunTogether();
        x.letters(3);
        Told.tell(x, "ab:3/1;c;ba:0/2;");
        Told.tell(x, "ab;ab;");
        x.follows(1, 2, false);
        x.price(0, 7);
        x.price(1, 0);
        x.price(2, 9);
        Told.lines(x, "abc", "cab");
        Told.write(x, "abcab");
        x.feed(2, 'a' << 8 | ';');
        return x;
    }

    /** As much of everything as there can be. */
    private static RunTogether full() {
        RunTogether x = Told.with(2, Told.SIXTEEN);
        for (int line = 0; line < 4; line++) {
            for (int i = 0; i < 6; i++) x.append(14 + (line + i) % 2);
            x.line();
        }
        for (int i = 0; i < 12; i++) x.append(14 + i % 2);
        for (int i = 0; i < 25; i++) x.feed(8, i == 3 ? 0x2020623b20202020L : 0x2020202020202020L);
        return x;
    }

    private void constants() {
        due.says("Terms", "NONE is -1.");
        due.is("NONE", NONE, -1);
        due.is("UNKNOWN", UNKNOWN, -1001);
        due.is("OUTSIDE", OUTSIDE, -1002);
        due.is("NOT", NOT, -1003);
        due.is("FULL", FULL, -1004);
        due.is("LARGE", LARGE, -1005);
        due.is("NONE as an answer", new RunTogether().fault(), -1);
    }

    private void refused(Supplier<RunTogether> state, String call, Call made, int refusal) {
        RunTogether x = state.get();
        due.is(call, made.on(x), refusal);
        due.alike(call + " has changed something", Seen.of(x), Seen.of(state.get()));
    }

    private void order() {
        due.says("Terms", "REFUSALS, of several the first in this order: UNKNOWN (a WORD that there is not), OUTSIDE (another number out of its bounds), NOT (not now, as told), FULL, LARGE (as told).");
    }

    private void unknownAheadOfOutside() {
        order();
        for (int w : new int[] {-1, 3, 16, LEAST, MOST}) {
            for (int what : new int[] {-1, 11, LEAST, MOST}) {
                refused(RefusalsTest::busy, "word(" + w + ", " + what + ")", x -> x.word(w, what), UNKNOWN);
            }
        }
        refused(RunTogether::new, "word(0, 11) without words", x -> x.word(0, 11), UNKNOWN);
        refused(RefusalsTest::full, "word(16, 11) of sixteen", x -> x.word(16, 11), UNKNOWN);
    }

    private void unknownAheadOfFull() {
        order();
        for (int w : new int[] {-1, 16, LEAST, MOST}) {
            refused(RefusalsTest::full, "append(" + w + ")", x -> x.append(w), UNKNOWN);
        }
    }

    private void outsideAheadOfNot() {
        order();
        for (int cost : new int[] {-1, 100, LEAST, MOST}) {
            refused(RefusalsTest::full, "fresh(" + cost + ", 0)", x -> x.fresh(cost, 0), OUTSIDE);
        }
        for (int what : new int[] {-1, 7, LEAST, MOST}) {
            refused(RefusalsTest::full, "fresh(0, " + what + ")", x -> x.fresh(0, what), OUTSIDE);
        }
    }

    private static RunTogether fourLines(int letters) {
        RunTogether x = Told.with(2, "ab;");
        Told.lines(x, "a", "b", "ab", "ba");
        for (int i = 0; i < letters; i++) x.letter(i % 2);
        return x;
    }

    private void outsideAheadOfFull() {
        order();
        for (int n : new int[] {-1, 0, 9, LEAST, MOST}) {
            refused(RefusalsTest::full, "feed(" + n + ", 97)", x -> x.feed(n, 97), OUTSIDE);
        }
        for (int a : new int[] {-1, 2, LEAST, MOST}) {
            refused(RefusalsTest::full, "letter(" + a + ")", x -> x.letter(a), OUTSIDE);
        }
        refused(() -> fourLines(0), "line() without letters, a fifth one", RunTogether::line, OUTSIDE);
        refused(() -> fourLines(25), "line() of 25 letters, a fifth one", RunTogether::line, OUTSIDE);
        refused(() -> fourLines(48), "line() of 48 letters, a fifth one", RunTogether::line, OUTSIDE);
        refused(() -> fourLines(24), "line() of 24 letters, a fifth one", RunTogether::line, FULL);
        refused(() -> fourLines(1), "line() of one letter, a fifth one", RunTogether::line, FULL);
    }

    private static RunTogether eightWords() {
        return Told.with(8, "a;b;c;d;e;f;g;h;");
    }

    private void outsideAheadOfLarge() {
        order();
        refused(RefusalsTest::eightWords, "ways(40)", x -> x.ways(40), LARGE);
        refused(RefusalsTest::eightWords, "ways(41)", x -> x.ways(41), OUTSIDE);
        refused(RefusalsTest::eightWords, "rows(20)", x -> x.rows(20), LARGE);
        refused(RefusalsTest::eightWords, "rows(21)", x -> x.rows(21), OUTSIDE);
    }

    /** The calls that every state refuses, with the numbers just beyond their bounds and those far away. */
    private void refusedInAnyState(Supplier<RunTogether> state, int letters, int words, int draft) {
        due.says("Terms", "What is refused changes nothing.");
        for (int k : new int[] {1, 9, 0, -1, LEAST, MOST}) refused(state, "letters(" + k + ")", x -> x.letters(k), OUTSIDE);
        for (int n : new int[] {0, 9, -1, LEAST, MOST}) refused(state, "feed(" + n + ", 97)", x -> x.feed(n, 97), OUTSIDE);
        for (int w : new int[] {-1, words, LEAST, MOST}) {
            refused(state, "word(" + w + ", 0)", x -> x.word(w, 0), UNKNOWN);
            refused(state, "append(" + w + ")", x -> x.append(w), UNKNOWN);
            if (w != NONE) refused(state, "uses(" + w + ")", x -> x.uses(w), UNKNOWN);
        }
        refused(state, "uses(-2)", x -> x.uses(-2), UNKNOWN);
        for (int i : new int[] {-1, 4, LEAST, MOST}) {
            for (int j = 0; j < 4; j++) {
                int other = j;
                refused(state, "follows(" + i + ", " + j + ", false)", x -> x.follows(i, other, false), OUTSIDE);
                refused(state, "follows(" + j + ", " + i + ", false)", x -> x.follows(other, i, false), OUTSIDE);
            }
            refused(state, "best(" + i + ")", x -> x.best(i), OUTSIDE);
        }
        for (int what : new int[] {-1, 5, LEAST, MOST}) refused(state, "count(" + what + ")", x -> x.count(what), OUTSIDE);
        for (int a : new int[] {-1, letters, LEAST, MOST}) refused(state, "letter(" + a + ")", x -> x.letter(a), OUTSIDE);
        for (long i : new long[] {-1, TEN15 + 1, Long.MIN_VALUE, Long.MAX_VALUE}) {
            refused(state, "reading(" + i + ", 0)", x -> x.reading(i, 0), OUTSIDE);
        }
        for (int place : new int[] {-1, draft + 1, LEAST, MOST}) refused(state, "end(" + place + ")", x -> x.end(place), OUTSIDE);
        refusedInAnyStateToo(state);
    }

    private void refusedInAnyStateToo(Supplier<RunTogether> state) {
        for (int what : new int[] {-1, 3, LEAST, MOST}) {
            refused(state, "within(" + what + ")", x -> x.within(what), OUTSIDE);
            refused(state, "price(" + what + ", 1)", x -> x.price(what, 1), OUTSIDE);
        }
        for (int v : new int[] {-1, 100, LEAST, MOST}) {
            for (int what = 0; what < 3; what++) {
                int which = what;
                refused(state, "price(" + what + ", " + v + ")", x -> x.price(which, v), OUTSIDE);
            }
            refused(state, "price(3, " + v + ")", x -> x.price(3, v), OUTSIDE);
            refused(state, "fresh(" + v + ", 0)", x -> x.fresh(v, 0), OUTSIDE);
            refused(state, "fresh(" + v + ", 7)", x -> x.fresh(v, 7), OUTSIDE);
        }
        for (int what : new int[] {-1, 7, LEAST, MOST}) refused(state, "fresh(1, " + what + ")", x -> x.fresh(1, what), OUTSIDE);
        for (int n : new int[] {-1, 41, LEAST, MOST}) refused(state, "ways(" + n + ")", x -> x.ways(n), OUTSIDE);
        for (int n : new int[] {-1, 21, LEAST, MOST}) refused(state, "rows(" + n + ")", x -> x.rows(n), OUTSIDE);
        for (int what : new int[] {-1, 2, LEAST, MOST}) refused(state, "patched(" + what + ")", x -> x.patched(what), OUTSIDE);
        for (int n : new int[] {0, 21, -1, LEAST, MOST}) refused(state, "learn(" + n + ")", x -> x.learn(n), OUTSIDE);
    }

    private static RunTogether wordsGone() {
        RunTogether x = busy();
        x.read();
        x.read();
        Told.write(x, "abcab");
        return x;
    }

    private void withoutWords() {
        for (int i : new int[] {NONE, 0, 11, 12, -2, LEAST, MOST}) {
            refused(RunTogether::new, "key(" + i + ")", x -> x.key(i), NOT);
            refused(RunTogether::new, "strange(" + i + ")", x -> x.strange(i), NOT);
            refused(RefusalsTest::wordsGone, "key(" + i + ")", x -> x.key(i), NOT);
            refused(RefusalsTest::wordsGone, "strange(" + i + ")", x -> x.strange(i), NOT);
        }
        refused(RunTogether::new, "line() without letters", RunTogether::line, OUTSIDE);
        refused(RefusalsTest::wordsGone, "word(0, 0)", x -> x.word(0, 0), UNKNOWN);
        refused(RefusalsTest::wordsGone, "append(0)", x -> x.append(0), UNKNOWN);
        refused(RefusalsTest::wordsGone, "uses(0)", x -> x.uses(0), UNKNOWN);
    }

    private void whereNothingMoreGoes() {
        for (int n = 1; n <= 8; n++) {
            int more = n;
            refused(RefusalsTest::full, "feed(" + n + ", ..)", x -> x.feed(more, 0x613b623b613b623bL), FULL);
        }
        refused(RefusalsTest::full, "letter(0)", x -> x.letter(0), FULL);
        refused(RefusalsTest::full, "letter(1)", x -> x.letter(1), FULL);
        for (int w = 0; w < 16; w++) {
            int which = w;
            refused(RefusalsTest::full, "append(" + w + ")", x -> x.append(which), FULL);
        }
        for (int what = 0; what <= 6; what++) {
            int which = what;
            refused(RefusalsTest::full, "fresh(0, " + what + ")", x -> x.fresh(0, which), NOT);
            refused(RefusalsTest::full, "fresh(99, " + what + ")", x -> x.fresh(99, which), NOT);
        }
        refused(RefusalsTest::full, "line() of 48 letters", RunTogether::line, OUTSIDE);
    }

    private static RunTogether manyCheapest() {
        RunTogether x = Told.with(2, "a:0;aa:0;");
        for (int i = 0; i < 24; i++) x.append(1);
        return x;
    }

    private void large() {
        refused(RefusalsTest::manyCheapest, "best(1)", x -> x.best(1), LARGE);
        refused(RefusalsTest::full, "ways(40)", x -> x.ways(40), LARGE);
    }

    private void asked(Supplier<RunTogether> state, String call, Call made) {
        RunTogether x = state.get();
        long first = made.on(x);
        due.is(call + " again", made.on(x), first);
        due.alike(call + " has changed something", Seen.of(x), Seen.of(state.get()));
    }

    /** A call that only asks is no refusal, but neither may it leave a trace. */
    private void askingChangesNothing(Supplier<RunTogether> state) {
        asked(state, "fault()", RunTogether::fault);
        asked(state, "word(0, 2)", x -> x.word(0, 2));
        asked(state, "count(2)", x -> x.count(2));
        asked(state, "readings()", RunTogether::readings);
        asked(state, "reading(1, 2)", x -> x.reading(1, 2));
        for (int what = 0; what < 4; what++) {
            int which = what;
            asked(state, "best(" + what + ")", x -> x.best(which));
        }
        asked(state, "cheapest(1)", x -> x.cheapest(1));
        asked(state, "end(2)", x -> x.end(2));
        for (int what = 0; what < 3; what++) {
            int which = what;
            asked(state, "within(" + what + ")", x -> x.within(which));
        }
        asked(state, "key(0)", x -> x.key(0));
        asked(state, "strange(0)", x -> x.strange(0));
        asked(state, "ways(7)", x -> x.ways(7));
        asked(state, "rows(20)", x -> x.rows(20));
        asked(state, "patched(0)", x -> x.patched(0));
        asked(state, "patched(1)", x -> x.patched(1));
        asked(state, "totals()", RunTogether::totals);
        asked(state, "uses(0)", x -> x.uses(0));
        asked(state, "uses(-1)", x -> x.uses(NONE));
        asked(state, "fresh(0, 0)", x -> x.fresh(0, 0));
        asked(state, "fresh(9, 2)", x -> x.fresh(9, 2));
    }

    /** A FAULT empties THE TEXT and is told by fault(); all else is as it was. */
    private void faultsChangeNoWords() {
        String[] texts = {"?", "c;d;", "a:100;", "abcabcabc;", "ab;ab;", "ab:3/1;c:1;ba:0/2;a:7/3;b:8/4;", Told.SIXTEEN + "bbbb;"};
        int[] dues = {-11, -12, -12, -13, -14, -12, -15};
        for (int i = 0; i < texts.length; i++) {
            RunTogether x = busy();
            x.read();
            Told.tell(x, "ab:3/1;c;ba:0/2;");
            RunTogether y = busy();
            y.read();
            Told.tell(y, "ab:3/1;c;ba:0/2;");
            due.is("read() of [" + texts[i] + "]", Told.tell(x, texts[i]), dues[i]);
            Told.tell(y, "?");
            String seenX = Seen.of(x).replaceAll("fault=\\S+ ", "");
            due.alike("read() of [" + texts[i] + "] has changed something", seenX, Seen.of(y).replaceAll("fault=\\S+ ", ""));
        }
    }
}
