/** Runs of calls drawn from fixed seeds: the program must answer each call as the plain model does. */
public final class ModelTest {
    private static final int RUNS = 700;
    private final Due due = new Due();
    private long seed;
    private RunTogether x;
    private Plain m;
    private int run;

    private int draw(int bound) {
        seed = seed * 6364136223846793005L + 1442695040888963407L;
        return (int) ((seed >>> 33) % bound);
    }

    public static void main(String[] args) {
        int runs = args.length > 0 ? Integer.parseInt(args[0]) : RUNS;
        int from = args.length > 1 ? Integer.parseInt(args[1]) : 0;
        ModelTest test = new ModelTest();
        for (int run = from; run < from + runs && test.due.isRight(); run++) test.oneRun(run);
        test.due.close();
    }

    private void oneRun(int number) {
        run = number;
        seed = number * 7919L + 12345;
        draw(2);
        x = new RunTogether();
        m = new Plain();
        if (draw(4) > 0) letters(2 + draw(draw(3) + 1) * (1 + draw(3)));
        tell(goodText());
        int calls = 60 + draw(200);
        for (int i = 0; i < calls && due.isRight(); i++) oneCall();
    }

    private void is(String call, long got, long want) {
        due.is("run " + run + ": " + call, got, want);
    }

    private void letters(int k) {
        is("letters(" + k + ")", x.letters(k), m.letters(k));
    }

    private void tell(String text) {
        for (int at = 0; at < text.length(); ) {
            int n = Math.min(text.length() - at, 1 + draw(8));
            long bytes = draw(2) == 0 ? 0 : -1L;
            for (int i = 0; i < n; i++) bytes = bytes << 8 | text.charAt(at + i);
            is("feed(" + n + ", " + bytes + ")", x.feed(n, bytes), m.feed(n, bytes));
            at += n;
        }
        is("read() of [" + text + "]", x.read(), m.read());
        is("fault() of [" + text + "]", x.fault(), m.fault());
    }

    private String goodText() {
        int there = m.count(0);
        int used = Math.min(there, 2 + draw(there));
        int longest = 1 + draw(draw(4) == 0 ? 8 : 4);
        int words = draw(3) == 0 ? draw(17) : 1 + draw(6);
        boolean full = draw(6) == 0;
        if (full) words = 16;
        java.util.Set<String> told = new java.util.LinkedHashSet<>();
        for (int i = 0; i < 40 && told.size() < words; i++) {
            StringBuilder word = new StringBuilder();
            int length = full && draw(8) > 0 ? 8 - draw(draw(4) + 1) : 1 + draw(longest);
            for (int j = 0; j < length; j++) word.append((char) ('a' + draw(used)));
            told.add(word.toString());
        }
        boolean kinds = !full && draw(2) == 0;
        int costs = full ? 0 : draw(3);
        StringBuilder text = new StringBuilder();
        for (String word : told) {
            text.append(word);
            if (costs > 0 && draw(3) > 0) text.append(':').append(draw(costs == 1 ? 10 : 100));
            if (kinds && draw(3) > 0) text.append('/').append(draw(4));
            text.append(';');
        }
        return text.length() <= 200 ? text.toString() : text.substring(0, text.lastIndexOf(";", 199) + 1);
    }

    private String anyText() {
        StringBuilder text = new StringBuilder(goodText());
        int changes = draw(5);
        String signs = "abcdefghiz;;:/ 0123499 \u00ff\u0000A";
        for (int i = 0; i < changes; i++) {
            int at = draw(text.length() + 1);
            char sign = signs.charAt(draw(signs.length()));
            int how = draw(4);
            if (how == 0 && at < text.length()) text.deleteCharAt(at);
            else if (how == 1 && at < text.length()) text.setCharAt(at, sign);
            else text.insert(at, how == 2 ? ' ' : sign);
        }
        if (draw(4) == 0) {
            for (int at = text.length(); at > 0; at -= 1 + draw(4)) text.insert(at, ' ');
        }
        if (draw(6) == 0) text.append(text.toString());
        if (text.length() > 200) text.setLength(200);
        return text.toString();
    }

    private int index(int most) {
        int how = draw(20);
        if (how == 0) return -1;
        if (how == 1) return most + draw(3);
        if (how == 2) return new int[] {Integer.MIN_VALUE, Integer.MAX_VALUE, -2, -1001, 1 << 28, 1 << 29}[draw(6)];
        return draw(Math.max(1, most));
    }

    private void oneCall() {
        int which = draw(100);
        if (which < 22) writeDraft();
        else if (which < 50) askDraft();
        else if (which < 62) askWithin();
        else if (which < 72) askPatched();
        else if (which < 88) askLines();
        else askOrChangeRest();
    }

    private void writeDraft() {
        int how = draw(12);
        if (how == 0) {
            is("clear()", x.clear(), m.clear());
            return;
        }
        int times = 1 + draw(5);
        for (int i = 0; i < times; i++) {
            if (how < 8) {
                int w = index(m.count(1));
                is("append(" + w + ")", x.append(w), m.append(w));
            } else {
                int a = index(m.count(0));
                is("letter(" + a + ")", x.letter(a), m.letter(a));
            }
        }
    }

    private void askDraft() {
        int j = index(14);
        switch (draw(6)) {
            case 0 -> is("readings()", x.readings(), m.readings());
            case 1 -> {
                long many = Math.max(1, m.readings());
                long i = draw(3) == 0 ? draw(5) : (((long) draw(1 << 30)) << 20 | draw(1 << 20)) % many;
                if (draw(20) == 0) i = new long[] {-1, 1000000000000000L, 1000000000000001L, Long.MIN_VALUE, Long.MAX_VALUE, many}[draw(6)];
                is("reading(" + i + ", " + j + ")", x.reading(i, j), m.reading(i, j));
            }
            case 2, 3 -> {
                int what = index(4);
                is("best(" + what + ")", x.best(what), m.best(what));
            }
            case 4 -> is("cheapest(" + j + ")", x.cheapest(j), m.cheapest(j));
            default -> {
                int place = index(m.count(2) + 1);
                is("end(" + place + ")", x.end(place), m.end(place));
            }
        }
    }

    private void askWithin() {
        int i = index(5);
        switch (draw(5)) {
            case 0 -> is("within(" + i + ")", x.within(i), m.within(i));
            case 1 -> {
                is("key(-1)", x.key(-1), m.key(-1));
                is("key(" + i + ")", x.key(i), m.key(i));
            }
            case 2 -> {
                is("strange(-1)", x.strange(-1), m.strange(-1));
                is("strange(" + i + ")", x.strange(i), m.strange(i));
            }
            case 3 -> {
                int n = index(41);
                is("ways(" + n + ")", x.ways(n), m.ways(n));
            }
            default -> {
                int n = index(draw(4) == 0 ? 21 : 8);
                is("rows(" + n + ")", x.rows(n), m.rows(n));
            }
        }
    }

    private void askPatched() {
        int what = index(2);
        if (draw(4) == 0) {
            int v = draw(3) == 0 ? 0 : index(draw(2) == 0 ? 8 : 100);
            int which = index(3);
            is("price(" + which + ", " + v + ")", x.price(which, v), m.price(which, v));
        }
        is("patched(" + what + ")", x.patched(what), m.patched(what));
    }

    private void askLines() {
        int w = index(m.count(1));
        switch (draw(8)) {
            case 0, 1 -> is("line()", x.line(), m.line());
            case 2 -> {
                if (draw(5) == 0) is("drop()", x.drop(), m.drop());
            }
            case 3 -> is("totals()", x.totals(), m.totals());
            case 4 -> is("uses(" + w + ")", x.uses(w), m.uses(w));
            case 5 -> {
                int n = draw(2) == 0 ? index(3) : index(21);
                is("learn(" + n + ")", x.learn(n), m.learn(n));
            }
            default -> {
                int cost = draw(2) == 0 ? index(5) : index(100);
                int times = 1 + draw(3);
                for (int i = 0; i < times; i++) {
                    int what = index(7);
                    is("fresh(" + cost + ", " + what + ")", x.fresh(cost, what), m.fresh(cost, what));
                }
            }
        }
    }

    private void askOrChangeRest() {
        int i = index(4);
        int j = index(4);
        switch (draw(8)) {
            case 0, 1 -> {
                boolean is = draw(2) == 0;
                is("follows(" + i + ", " + j + ", " + is + ")", x.follows(i, j, is), m.follows(i, j, is));
            }
            case 2 -> {
                int what = index(11);
                int w = index(m.count(1));
                is("word(" + w + ", " + what + ")", x.word(w, what), m.word(w, what));
            }
            case 3 -> {
                int what = index(5);
                is("count(" + what + ")", x.count(what), m.count(what));
            }
            case 4 -> {
                int n = index(9);
                is("feed(" + n + ", 32)", x.feed(n, 0x2020202020202020L), m.feed(n, 0x2020202020202020L));
            }
            case 5 -> {
                if (draw(6) == 0) letters(index(9));
            }
            case 6 -> tell(anyText());
            default -> {
                if (draw(3) == 0) tell(goodText());
                is("fault()", x.fault(), m.fault());
            }
        }
    }
}
