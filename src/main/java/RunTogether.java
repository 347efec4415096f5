/**
 * Words run together: rows of letters without blanks, read as told WORDS one behind the other.
 * The document (../shared/DOC.md) says what each call answers; words in capitals are its terms.
 */
public final class RunTogether {
    public static final int NONE = -1, UNKNOWN = -1001, OUTSIDE = -1002, NOT = -1003, FULL = -1004, LARGE = -1005;

    private static final int FEWEST_LETTERS = 2;
    private static final int MOST_LETTERS = 8;
    private static final int MOST_WORDS = 16;
    private static final int LONGEST_WORD = 8;
    private static final int MOST_BYTES = 200;
    private static final int LONGEST_DRAFT = 48;
    private static final int MOST_LINES = 4;
    private static final int LONGEST_LINE = 24;
    private static final int DEAREST = 99;

    private static final int KINDS = 4;
    /** Ahead of the first WORD there is no KIND, and every KIND may come behind that. */
    private static final int NO_KIND = 4;
    /** How many things a WORD may come behind: the KINDS and NO_KIND. */
    private static final int AHEADS = 5;

    private static final int OTHER = 0;
    private static final int LOST = 1;
    private static final int STRANGE = 2;
    private static final int MISTAKES = 3;

    private static final int NO_FAULT = 0;
    private static final int MISPLACED = 1;
    private static final int UNFIT = 2;
    private static final int NINTH_LETTER = 3;
    private static final int WORD_AGAIN = 4;
    private static final int SEVENTEENTH_WORD = 5;
    private static final int FAULT_BASE = -10;
    private static final int BLANK = 32;

    private static final long MOST_COUNTED = 1000000000000000L;
    private static final long MOST_CHEAPEST = 1000000000L;
    private static final int MOST_WAYS = 40;
    private static final int LONGEST_COUNTED = 20;
    private static final int MOST_ROUNDS = 20;

    private static final int MOST_STATES = 2000;
    private static final int LONGEST_SHORTEST = 12;
    private static final int HEADS = 1024;

    private static final int SHORTEST_NEW = 2;
    private static final int LONGEST_NEW = 5;

    /** What a reading is weighed by: see Readings.weight. */
    private static final int BY_NOTHING = 0;
    private static final int BY_COST = 1;
    private static final int BY_FEWEST = 2;
    private static final int BY_MOST = 3;
    private static final int BY_END_THERE = 4;
    private static final int BY_NO_END_THERE = 5;

    /** Above every sum that a table of least sums can hold. */
    private static final int FAR = 1000000000;
    /** A sum of prices and a number of mistakes share a long: the number stands below this. */
    private static final int MISTAKE_BITS = 20;
    private static final long FAR_PATCHED = 1L << 60;

    private final Rules rules;
    private final Words words;
    private final Row text;
    private final Row draft;
    private final Clauses clauses;
    private final Readings drafted;
    private final Patching patching;
    private final Lines lines;
    private final long[] waysOf;
    private final Shortest shortestKey;
    private final Shortest shortestStrange;
    /** Made at the first need: it is by far the largest part. */
    private Knowing knowing;

    public RunTogether() {
        rules = new Rules();
        words = new Words();
        text = new Row(MOST_BYTES);
        draft = new Row(LONGEST_DRAFT);
        clauses = new Clauses(text, rules);
        drafted = new Readings(draft, words, rules);
        patching = new Patching(draft, words, rules);
        lines = new Lines(words, rules);
        waysOf = new long[MOST_WAYS + 1];
        shortestKey = new Shortest(true);
        shortestStrange = new Shortest(false);
    }

    // ---- letters, words

    public int letters(int k) {
        if (k < FEWEST_LETTERS || k > MOST_LETTERS) {
            return OUTSIDE;
        }
        rules.letters = k;
        words.size = 0;
        lines.size = 0;
        draft.size = 0;
        forgetFound();
        return k;
    }

    public int feed(int n, long bytes) {
        if (n < 1 || n > 8) {
            return OUTSIDE;
        }
        if (text.size + n > MOST_BYTES) {
            return FULL;
        }
        for (int i = n - 1; i >= 0; i--) {
            text.put((int) (bytes >>> (8 * i)) & 255);
        }
        return text.size;
    }

    public int read() {
        int number = clauses.parse();
        text.size = 0;
        if (number != NO_FAULT) {
            return FAULT_BASE - number;
        }
        words.become(clauses.told);
        forgetFound();
        return words.size;
    }

    public int fault() {
        return clauses.faultAt;
    }

    public int word(int w, int what) {
        if (!words.has(w)) {
            return UNKNOWN;
        }
        if (what < 0 || what > 2 + LONGEST_WORD) {
            return OUTSIDE;
        }
        switch (what) {
            case 0:
                return words.costs[w];
            case 1:
                return words.kinds[w];
            case 2:
                return words.lengths[w];
            default:
                return what - 3 < words.lengths[w] ? words.sign(w, what - 3) : NONE;
        }
    }

    public int follows(int i, int j, boolean is) {
        if (i < 0 || i >= KINDS || j < 0 || j >= KINDS) {
            return OUTSIDE;
        }
        int was = rules.mayCome(i, j) ? 1 : 0;
        rules.barred[i * KINDS + j] = !is;
        forgetFound();
        return was;
    }

    public int count(int what) {
        switch (what) {
            case 0:
                return rules.letters;
            case 1:
                return words.size;
            case 2:
                return draft.size;
            case 3:
                return text.size;
            case 4:
                return lines.size;
            default:
                return OUTSIDE;
        }
    }

    // ---- the draft, readings

    public int letter(int a) {
        if (a < 0 || a >= rules.letters) {
            return OUTSIDE;
        }
        if (draft.size >= LONGEST_DRAFT) {
            return FULL;
        }
        draft.put(a);
        return draft.size;
    }

    public int append(int w) {
        if (!words.has(w)) {
            return UNKNOWN;
        }
        if (draft.size + words.lengths[w] > LONGEST_DRAFT) {
            return FULL;
        }
        for (int i = 0; i < words.lengths[w]; i++) {
            draft.put(words.sign(w, i));
        }
        return draft.size;
    }

    public int clear() {
        int had = draft.size;
        draft.size = 0;
        return had;
    }

    public long readings() {
        drafted.measure(BY_NOTHING, NONE);
        long many = drafted.manyInAll();
        return many > MOST_COUNTED ? LARGE : many;
    }

    public int reading(long i, int j) {
        if (i < 0 || i > MOST_COUNTED) {
            return OUTSIDE;
        }
        drafted.measure(BY_NOTHING, NONE);
        return drafted.wordOfLeast(i, j);
    }

    public int best(int what) {
        switch (what) {
            case 0:
                drafted.measure(BY_COST, NONE);
                return drafted.isReadable() ? drafted.leastInAll() : NONE;
            case 1:
                drafted.measure(BY_COST, NONE);
                return drafted.manyInAll() > MOST_CHEAPEST ? LARGE : (int) drafted.manyInAll();
            case 2:
                drafted.measure(BY_FEWEST, NONE);
                return drafted.isReadable() ? drafted.leastInAll() : NONE;
            case 3:
                drafted.measure(BY_MOST, NONE);
                return drafted.isReadable() ? -drafted.leastInAll() : NONE;
            default:
                return OUTSIDE;
        }
    }

    public int cheapest(int j) {
        drafted.measure(BY_COST, NONE);
        return drafted.wordOfLeast(0, j);
    }

    public int end(int place) {
        if (place < 0 || place > draft.size) {
            return OUTSIDE;
        }
        drafted.measure(BY_END_THERE, place);
        if (!drafted.isReadable()) {
            return 0;
        }
        if (place == 0 || drafted.leastInAll() > 0) {
            return 2;
        }
        drafted.measure(BY_NO_END_THERE, place);
        return drafted.leastInAll() < 0 ? 1 : 0;
    }

    // ---- words in words

    public int within(int what) {
        switch (what) {
            case 0:
                return countPairs(true);
            case 1:
                return countPairs(false);
            case 2:
                return countHidden();
            default:
                return OUTSIDE;
        }
    }

    public int key(int i) {
        return partOfShortest(shortestKey, i);
    }

    public int strange(int i) {
        return partOfShortest(shortestStrange, i);
    }

    public long ways(int n) {
        if (n < 0 || n > MOST_WAYS) {
            return OUTSIDE;
        }
        waysOf[0] = 1;
        for (int length = 1; length <= n; length++) {
            waysOf[length] = 0;
            for (int w = 0; w < words.size; w++) {
                int rest = length - words.lengths[w];
                if (rest >= 0) {
                    waysOf[length] = addCapped(waysOf[length], waysOf[rest]);
                }
            }
        }
        return waysOf[n] > MOST_COUNTED ? LARGE : waysOf[n];
    }

    public long rows(int n) {
        if (n < 0 || n > LONGEST_COUNTED) {
            return OUTSIDE;
        }
        if (words.size == 0) {
            return n == 0 ? 1 : 0;
        }
        long many = states().countRows(n);
        return many > MOST_COUNTED ? LARGE : many;
    }

    // ---- mistakes

    public int price(int what, int v) {
        if (what < 0 || what >= MISTAKES || v < 0 || v > DEAREST) {
            return OUTSIDE;
        }
        int was = rules.prices[what];
        rules.prices[what] = v;
        forgetFound();
        return was;
    }

    public int patched(int what) {
        if (what < 0 || what > 1) {
            return OUTSIDE;
        }
        long least = patching.leastInAll();
        return what == 0 ? (int) (least >> MISTAKE_BITS) : (int) (least & ((1L << MISTAKE_BITS) - 1));
    }

    // ---- lines

    public int line() {
        if (draft.size < 1 || draft.size > LONGEST_LINE) {
            return OUTSIDE;
        }
        if (lines.size >= MOST_LINES) {
            return FULL;
        }
        lines.take(draft);
        draft.size = 0;
        forgetFound();
        return lines.size;
    }

    public int drop() {
        int were = lines.size;
        lines.size = 0;
        forgetFound();
        return were;
    }

    public int totals() {
        lines.match();
        return lines.sumOfLeast();
    }

    public int uses(int w) {
        if (w != NONE && !words.has(w)) {
            return UNKNOWN;
        }
        lines.match();
        lines.countUses();
        return w == NONE ? lines.strangeUsed : lines.used[w];
    }

    public int learn(int n) {
        if (n < 1 || n > MOST_ROUNDS) {
            return OUTSIDE;
        }
        forgetFound();
        lines.match();
        for (int round = 0; round < n; round++) {
            lines.countUses();
            if (!lines.rankCosts()) {
                return round;
            }
        }
        return NONE;
    }

    public int fresh(int cost, int what) {
        if (cost < 0 || cost > DEAREST || what < 0 || what > 1 + LONGEST_NEW) {
            return OUTSIDE;
        }
        if (words.size >= MOST_WORDS) {
            return NOT;
        }
        lines.seekNew(cost);
        if (lines.bestGain <= 0) {
            return NONE;
        }
        switch (what) {
            case 0:
                return lines.bestGain;
            case 1:
                return lengthOfCode(lines.bestCode);
            default:
                return letterOfCode(lines.bestCode, what - 2);
        }
    }

    // ---- what the calls share

    /** What was found by long searches holds only as long as nothing is changed that it may hang on. */
    private void forgetFound() {
        shortestKey.isKnown = false;
        shortestStrange.isKnown = false;
        lines.soughtCost = NONE;
    }

    private Knowing states() {
        if (knowing == null) {
            knowing = new Knowing(words, rules);
        }
        return knowing;
    }

    private int partOfShortest(Shortest shortest, int i) {
        if (words.size == 0) {
            return NOT;
        }
        if (!shortest.isKnown) {
            states().search(shortest);
        }
        if (shortest.length == LARGE) {
            return LARGE;
        }
        if (i == NONE) {
            return shortest.length;
        }
        return i >= 0 && i < shortest.length ? shortest.signs[i] : NONE;
    }

    private int countPairs(boolean atBegin) {
        int pairs = 0;
        for (int v = 0; v < words.size; v++) {
            for (int w = 0; w < words.size; w++) {
                int behind = words.lengths[w] - words.lengths[v];
                if (behind > 0 && words.liesAt(v, w, w, atBegin ? 0 : behind)) {
                    pairs++;
                }
            }
        }
        return pairs;
    }

    private int countHidden() {
        int hidden = 0;
        for (int v = 0; v < words.size; v++) {
            if (isHidden(v)) {
                hidden++;
            }
        }
        return hidden;
    }

    private boolean isHidden(int v) {
        for (int x = 0; x < words.size; x++) {
            for (int y = 0; y < words.size; y++) {
                if (isHiddenIn(v, x, y)) {
                    return true;
                }
            }
        }
        return false;
    }

    private boolean isHiddenIn(int v, int x, int y) {
        int last = words.lengths[x] + words.lengths[y] - words.lengths[v];
        for (int at = 0; at <= last; at++) {
            boolean isOneOfThem = at == 0 && v == x || at == words.lengths[x] && v == y;
            if (!isOneOfThem && words.liesAt(v, x, y, at)) {
                return true;
            }
        }
        return false;
    }

    /** Sums above what is counted stay just above it: they are only asked whether they are. */
    private static long addCapped(long a, long b) {
        return Math.min(a + b, MOST_COUNTED + 1);
    }

    /**
     * A ROW of up to five letters as a number with a figure of base 9 for each letter, 0 behind its end:
     * so the numbers have the order of the ROWS.
     */
    private static int codeOf(int[] signs, int from, int length) {
        int code = 0;
        for (int i = 0; i < LONGEST_NEW; i++) {
            code = code * 9 + (i < length ? signs[from + i] + 1 : 0);
        }
        return code;
    }

    private static int letterOfCode(int code, int i) {
        int rest = code;
        for (int behind = LONGEST_NEW - 1; behind > i; behind--) {
            rest = rest / 9;
        }
        return rest % 9 - 1;
    }

    private static int lengthOfCode(int code) {
        int length = 0;
        for (int i = 0; i < LONGEST_NEW; i++) {
            if (letterOfCode(code, i) != NONE) {
                length++;
            }
        }
        return length;
    }

    /** A row of letters or bytes, with room for as many as are told when it is made. */
    private static final class Row {
        final int[] cells;
        int size;

        Row(int most) {
            cells = new int[Math.max(most, 0)];
        }

        void put(int cell) {
            if (size < cells.length) {
                cells[size] = cell;
                size++;
            }
        }
    }

    /** Which letters are there, which KINDS may follow which, what mistakes cost. */
    private static final class Rules {
        int letters = FEWEST_LETTERS;
        final boolean[] barred = new boolean[KINDS * KINDS];
        final int[] prices = new int[MISTAKES];

        Rules() {
            prices[OTHER] = 3;
            prices[LOST] = 4;
            prices[STRANGE] = 5;
        }

        boolean mayCome(int ahead, int kind) {
            return ahead == NO_KIND || !barred[ahead * KINDS + kind];
        }
    }

    /** The WORDS, by their numbers. */
    private static final class Words {
        int size;
        final int[] signs = new int[MOST_WORDS * LONGEST_WORD];
        final int[] lengths = new int[MOST_WORDS];
        final int[] costs = new int[MOST_WORDS];
        final int[] kinds = new int[MOST_WORDS];

        boolean has(int w) {
            return w >= 0 && w < size;
        }

        int sign(int w, int i) {
            return signs[w * LONGEST_WORD + i];
        }

        void become(Words told) {
            size = told.size;
            for (int w = 0; w < size; w++) {
                lengths[w] = told.lengths[w];
                costs[w] = told.costs[w];
                kinds[w] = told.kinds[w];
            }
            for (int i = 0; i < size * LONGEST_WORD; i++) {
                signs[i] = told.signs[i];
            }
        }

        boolean isAlike(int v, int w) {
            return lengths[v] == lengths[w] && liesAt(v, w, w, 0);
        }

        /** Whether v lies at a place of x with y behind it. */
        boolean liesAt(int v, int x, int y, int at) {
            int lengthOfX = lengths[x];
            if (at < 0 || at + lengths[v] > lengthOfX + lengths[y]) {
                return false;
            }
            for (int i = 0; i < lengths[v]; i++) {
                int place = at + i;
                int there = place < lengthOfX ? sign(x, place) : sign(y, place - lengthOfX);
                if (there != sign(v, i)) {
                    return false;
                }
            }
            return true;
        }

        /** A bit for each WORD that stands in the row from the place on. */
        int standingAt(Row row, int at) {
            int standing = 0;
            for (int w = 0; w < size; w++) {
                if (standsAt(w, row, at)) {
                    standing |= 1 << w;
                }
            }
            return standing;
        }

        private boolean standsAt(int w, Row row, int at) {
            if (at < 0 || at + lengths[w] > row.size) {
                return false;
            }
            for (int i = 0; i < lengths[w]; i++) {
                if (row.cells[at + i] != sign(w, i)) {
                    return false;
                }
            }
            return true;
        }
    }

    /** Reads THE TEXT. What it tells is kept apart, because WORDS stay as they were if there is a FAULT. */
    private static final class Clauses {
        final Words told = new Words();
        int faultAt = NONE;
        private final Row text;
        private final Rules rules;
        private int at;
        private int figured;

        Clauses(Row text, Rules rules) {
            this.text = text;
            this.rules = rules;
        }

        /** The number of the FAULT, whose byte is kept in faultAt, or NO_FAULT. */
        int parse() {
            faultAt = NONE;
            told.size = 0;
            at = 0;
            skipBlanks();
            for (int clause = 0; clause <= MOST_BYTES && at < text.size; clause++) {
                int number = parseClause();
                if (number != NO_FAULT) {
                    return number;
                }
                skipBlanks();
            }
            return NO_FAULT;
        }

        private int parseClause() {
            int number = parseLetters();
            if (number == NO_FAULT) {
                number = parseCost();
            }
            if (number == NO_FAULT) {
                number = parseKind();
            }
            if (number != NO_FAULT) {
                return number;
            }
            if (here() != ';') {
                return blame(MISPLACED, at);
            }
            at++;
            told.size++;
            return NO_FAULT;
        }

        private int parseLetters() {
            int first = at;
            if (!isLetter(here())) {
                return blame(MISPLACED, at);
            }
            int w = told.size;
            int length = 0;
            while (at < text.size && isLetter(here())) {
                int sign = here() - 'a';
                if (sign >= rules.letters) {
                    return blame(UNFIT, at);
                }
                if (w >= MOST_WORDS) {
                    return blame(SEVENTEENTH_WORD, first);
                }
                if (length >= LONGEST_WORD) {
                    return blame(NINTH_LETTER, at);
                }
                told.signs[w * LONGEST_WORD + length] = sign;
                length++;
                at++;
                skipBlanks();
            }
            told.lengths[w] = length;
            told.costs[w] = 1;
            told.kinds[w] = 0;
            return isToldAgain(w) ? blame(WORD_AGAIN, first) : NO_FAULT;
        }

        private boolean isToldAgain(int w) {
            for (int v = 0; v < w; v++) {
                if (told.isAlike(v, w)) {
                    return true;
                }
            }
            return false;
        }

        private int parseCost() {
            int number = parseNumber(':', 2, DEAREST);
            if (number == NO_FAULT && figured != NONE) {
                told.costs[told.size] = figured;
            }
            return number;
        }

        private int parseKind() {
            int number = parseNumber('/', 1, KINDS - 1);
            if (number == NO_FAULT && figured != NONE) {
                told.kinds[told.size] = figured;
            }
            return number;
        }

        /** What is figured behind the sign is kept in figured, NONE if the sign does not stand here. */
        private int parseNumber(int sign, int mostFigures, int most) {
            figured = NONE;
            if (here() != sign) {
                return NO_FAULT;
            }
            at++;
            skipBlanks();
            int first = at;
            int value = 0;
            while (at < text.size && isFigure(here())) {
                value = Math.min(value * 10 + here() - '0', DEAREST + 1);
                at++;
            }
            if (at == first) {
                return blame(MISPLACED, at);
            }
            if (at - first > mostFigures || value > most) {
                return blame(UNFIT, first);
            }
            figured = value;
            skipBlanks();
            return NO_FAULT;
        }

        private void skipBlanks() {
            while (at < text.size && here() == BLANK) {
                at++;
            }
        }

        /** The byte at the place, NONE at the end. */
        private int here() {
            return at >= 0 && at < text.size ? text.cells[at] : NONE;
        }

        private int blame(int number, int place) {
            faultAt = place;
            return number;
        }

        private static boolean isLetter(int sign) {
            return sign >= 'a' && sign <= 'h';
        }

        private static boolean isFigure(int sign) {
            return sign >= '0' && sign <= '9';
        }
    }

    /**
     * READINGS of THE DRAFT from each place to its end, behind each KIND: the least weight that one has,
     * and how many have that weight. What the calls ask differs in the weights alone.
     */
    private static final class Readings {
        private final Row draft;
        private final Words words;
        private final Rules rules;
        private final int[] standing = new int[LONGEST_DRAFT + 1];
        private final int[] least = new int[(LONGEST_DRAFT + 1) * AHEADS];
        private final long[] many = new long[(LONGEST_DRAFT + 1) * AHEADS];
        private int by;
        private int place;
        private long left;

        Readings(Row draft, Words words, Rules rules) {
            this.draft = draft;
            this.words = words;
            this.rules = rules;
        }

        void measure(int by, int place) {
            this.by = by;
            this.place = place;
            for (int ahead = 0; ahead < AHEADS; ahead++) {
                least[draft.size * AHEADS + ahead] = 0;
                many[draft.size * AHEADS + ahead] = 1;
            }
            for (int at = draft.size - 1; at >= 0; at--) {
                standing[at] = words.standingAt(draft, at);
                for (int ahead = 0; ahead < AHEADS; ahead++) {
                    measureFrom(at, ahead);
                }
            }
        }

        private void measureFrom(int at, int ahead) {
            int lightest = FAR;
            long ofThese = 0;
            for (int w = 0; w < words.size; w++) {
                int weight = weightFrom(at, ahead, w);
                if (weight < lightest) {
                    lightest = weight;
                    ofThese = 0;
                }
                if (weight < FAR && weight == lightest) {
                    ofThese = addCapped(ofThese, many[behind(at, w)]);
                }
            }
            least[at * AHEADS + ahead] = lightest;
            many[at * AHEADS + ahead] = ofThese;
        }

        /** The least weight of READINGS from here on that begin with w; FAR if there is none. */
        private int weightFrom(int at, int ahead, int w) {
            if ((standing[at] >> w & 1) == 0 || !rules.mayCome(ahead, words.kinds[w])) {
                return FAR;
            }
            int rest = least[behind(at, w)];
            return rest >= FAR ? FAR : rest + weight(w, at + words.lengths[w]);
        }

        private int behind(int at, int w) {
            return (at + words.lengths[w]) * AHEADS + words.kinds[w];
        }

        private int weight(int w, int end) {
            switch (by) {
                case BY_COST:
                    return words.costs[w];
                case BY_FEWEST:
                    return 1;
                case BY_MOST:
                    return -1;
                case BY_END_THERE:
                    return end == place ? 1 : 0;
                case BY_NO_END_THERE:
                    return end == place ? -1 : 0;
                default:
                    return 0;
            }
        }

        boolean isReadable() {
            return many[NO_KIND] > 0;
        }

        int leastInAll() {
            return least[NO_KIND];
        }

        long manyInAll() {
            return many[NO_KIND];
        }

        /** WORD j of the i-th READING of those of least weight. */
        int wordOfLeast(long i, int j) {
            if (i >= many[NO_KIND]) {
                return NONE;
            }
            left = i;
            int at = 0;
            int ahead = NO_KIND;
            for (int step = 0; step <= j && at < draft.size; step++) {
                int chosen = choose(at, ahead);
                if (chosen == NONE || step == j) {
                    return chosen;
                }
                at += words.lengths[chosen];
                ahead = words.kinds[chosen];
            }
            return NONE;
        }

        /** The WORD with which the READING goes on that has as many ahead of it as are left to pass by. */
        private int choose(int at, int ahead) {
            int lightest = least[at * AHEADS + ahead];
            for (int w = 0; w < words.size; w++) {
                int weight = weightFrom(at, ahead, w);
                if (weight >= FAR || weight > lightest) {
                    continue;
                }
                long held = many[behind(at, w)];
                if (left < held) {
                    return w;
                }
                left -= held;
            }
            return NONE;
        }
    }

    /** THE SHORTEST KEY or STRANGE ROW, once it has been searched for. */
    private static final class Shortest {
        final boolean isKey;
        boolean isKnown;
        /** NONE: there is none so short; LARGE: too many states. */
        int length = NONE;
        final int[] signs = new int[LONGEST_SHORTEST];

        Shortest(boolean isKey) {
            this.isKey = isKey;
        }
    }

    /**
     * States of knowing: in which places one may be behind a ROW. A place is a bit: one for each letter of
     * each WORD, the letter to come next; so those of the first letters are all set, or none: at an end.
     */
    private static final class Knowing {
        private final Words words;
        private final Rules rules;
        private int size;
        private final long[] lows = new long[MOST_STATES];
        private final long[] highs = new long[MOST_STATES];
        private final int[] heads = new int[HEADS];
        private final int[] chained = new int[MOST_STATES];
        private final int[] parents = new int[MOST_STATES];
        private final int[] steps = new int[MOST_STATES];
        private final long[] counts = new long[MOST_STATES];
        private final long[] nextCounts = new long[MOST_STATES];
        private final long[] readsLow = new long[MOST_LETTERS];
        private final long[] readsHigh = new long[MOST_LETTERS];
        private final Places firsts = new Places();
        private final Places lasts = new Places();
        private final Places next = new Places();

        Knowing(Words words, Rules rules) {
            this.words = words;
            this.rules = rules;
        }

        void search(Shortest shortest) {
            layOut();
            beAnywhere();
            begin();
            shortest.isKnown = true;
            // Where all WORDS have one letter, one is at an end from the start: the ROW without letters is a KEY.
            shortest.length = shortest.isKey && next.isLike(firsts) ? 0 : NONE;
            int from = 0;
            for (int length = 1; length <= LONGEST_SHORTEST && shortest.length == NONE; length++) {
                int to = size;
                for (int s = from; s < to && shortest.length == NONE; s++) {
                    searchBehind(s, length, shortest);
                }
                from = to;
            }
        }

        private void beAnywhere() {
            next.empty();
            for (int sign = 0; sign < MOST_LETTERS; sign++) {
                next.low |= readsLow[sign];
                next.high |= readsHigh[sign];
            }
        }

        private void searchBehind(int s, int length, Shortest shortest) {
            for (int sign = 0; sign < rules.letters; sign++) {
                stepFrom(s, sign);
                boolean isSought = shortest.isKey ? next.isLike(firsts) : next.isEmpty();
                if (isSought) {
                    shortest.length = length;
                    spell(s, sign, shortest);
                    return;
                }
                if (next.isEmpty() || find() != NONE) {
                    continue;
                }
                if (size >= MOST_STATES) {
                    shortest.length = LARGE;
                    return;
                }
                parents[size] = s;
                steps[size] = sign;
                keep();
            }
        }

        private void spell(int s, int sign, Shortest shortest) {
            shortest.signs[shortest.length - 1] = sign;
            int state = s;
            for (int i = shortest.length - 2; i >= 0; i--) {
                shortest.signs[i] = steps[state];
                state = parents[state];
            }
        }

        /** How many ROWS of the length can be read; LARGE: too many states. */
        long countRows(int n) {
            layOut();
            next.become(firsts);
            begin();
            counts[0] = 1;
            for (int length = 1; length <= n; length++) {
                if (!countOn()) {
                    return LARGE;
                }
            }
            long many = 0;
            for (int s = 0; s < size; s++) {
                if ((lows[s] & firsts.low) != 0 || (highs[s] & firsts.high) != 0) {
                    many += counts[s];
                }
            }
            return many;
        }

        private boolean countOn() {
            int held = size;
            for (int s = 0; s < held; s++) {
                nextCounts[s] = 0;
            }
            for (int s = 0; s < held; s++) {
                for (int sign = 0; sign < rules.letters && counts[s] > 0; sign++) {
                    stepFrom(s, sign);
                    if (next.isEmpty()) {
                        continue;
                    }
                    int to = find();
                    if (to == NONE) {
                        if (size >= MOST_STATES) {
                            return false;
                        }
                        to = size;
                        nextCounts[to] = 0;
                        keep();
                    }
                    nextCounts[to] += counts[s];
                }
            }
            for (int s = 0; s < size; s++) {
                counts[s] = nextCounts[s];
            }
            return true;
        }

        private void layOut() {
            firsts.empty();
            lasts.empty();
            for (int sign = 0; sign < MOST_LETTERS; sign++) {
                readsLow[sign] = 0;
                readsHigh[sign] = 0;
            }
            int place = 0;
            for (int w = 0; w < words.size; w++) {
                firsts.add(place);
                for (int i = 0; i < words.lengths[w]; i++) {
                    int sign = words.sign(w, i);
                    readsLow[sign] |= Places.lowBit(place);
                    readsHigh[sign] |= Places.highBit(place);
                    place++;
                }
                lasts.add(place - 1);
            }
        }

        private void begin() {
            for (int h = 0; h < HEADS; h++) {
                heads[h] = NONE;
            }
            size = 0;
            keep();
        }

        private void stepFrom(int s, int sign) {
            long low = lows[s] & readsLow[sign];
            long high = highs[s] & readsHigh[sign];
            boolean isEnd = (low & lasts.low) != 0 || (high & lasts.high) != 0;
            low &= ~lasts.low;
            high &= ~lasts.high;
            next.low = low << 1 | (isEnd ? firsts.low : 0);
            next.high = high << 1 | low >>> 63 | (isEnd ? firsts.high : 0);
        }

        /** The number of the state that next is, or NONE. */
        private int find() {
            int s = heads[next.head()];
            for (int seen = 0; seen < MOST_STATES && s != NONE; seen++) {
                if (lows[s] == next.low && highs[s] == next.high) {
                    return s;
                }
                s = chained[s];
            }
            return NONE;
        }

        private void keep() {
            if (size < MOST_STATES) {
                lows[size] = next.low;
                highs[size] = next.high;
                chained[size] = heads[next.head()];
                heads[next.head()] = size;
                size++;
            }
        }
    }

    /** A set of up to 128 places: 16 WORDS of 8 letters. */
    private static final class Places {
        long low;
        long high;

        static long lowBit(int place) {
            return place < 64 ? 1L << place : 0;
        }

        static long highBit(int place) {
            return place < 64 ? 0 : 1L << (place - 64);
        }

        void add(int place) {
            low |= lowBit(place);
            high |= highBit(place);
        }

        void empty() {
            low = 0;
            high = 0;
        }

        void become(Places other) {
            low = other.low;
            high = other.high;
        }

        boolean isEmpty() {
            return low == 0 && high == 0;
        }

        boolean isLike(Places other) {
            return low == other.low && high == other.high;
        }

        /** Where a state is looked for: any spread will do. */
        int head() {
            long mixed = (low ^ high * 31) * 0x9E3779B97F4A7C15L;
            return (int) (mixed >>> 54) & (HEADS - 1);
        }
    }

    /** PATCHED: least sums at a place of THE DRAFT, within each WORD and behind each KIND. */
    private static final class Patching {
        private static final int WIDTH = LONGEST_WORD + 1;
        private final Row draft;
        private final Words words;
        private final Rules rules;
        /** By WORD and by how many of its letters are done with. */
        private final long[] inside = new long[MOST_WORDS * WIDTH];
        private final long[] outside = new long[AHEADS];

        Patching(Row draft, Words words, Rules rules) {
            this.draft = draft;
            this.words = words;
            this.rules = rules;
        }

        long leastInAll() {
            for (int i = 0; i < words.size * WIDTH; i++) {
                inside[i] = FAR_PATCHED;
            }
            for (int ahead = 0; ahead < AHEADS; ahead++) {
                outside[ahead] = ahead == NO_KIND ? 0 : FAR_PATCHED;
            }
            settle();
            for (int at = 0; at < draft.size; at++) {
                takeLetter(draft.cells[at]);
                settle();
            }
            long least = FAR_PATCHED;
            for (int ahead = 0; ahead < AHEADS; ahead++) {
                least = Math.min(least, outside[ahead]);
            }
            return least;
        }

        /**
         * What can be done without a letter of THE DRAFT. A WORD that is lost whole may open the way to
         * other KINDS, each of them once at the most: so a few rounds are enough.
         */
        private void settle() {
            boolean isMoved = true;
            for (int round = 0; round < 2 * AHEADS && isMoved; round++) {
                isMoved = false;
                for (int w = 0; w < words.size; w++) {
                    if (settleWord(w)) {
                        isMoved = true;
                    }
                }
            }
        }

        private boolean settleWord(int w) {
            int base = w * WIDTH;
            int kind = words.kinds[w];
            for (int ahead = 0; ahead < AHEADS; ahead++) {
                if (rules.mayCome(ahead, kind)) {
                    long begun = outside[ahead] + ((long) words.costs[w] << MISTAKE_BITS);
                    inside[base] = Math.min(inside[base], begun);
                }
            }
            int last = base + words.lengths[w];
            for (int i = base; i < last; i++) {
                inside[i + 1] = Math.min(inside[i + 1], inside[i] + mistake(LOST));
            }
            if (inside[last] >= outside[kind]) {
                return false;
            }
            outside[kind] = inside[last];
            return true;
        }

        private void takeLetter(int sign) {
            for (int ahead = 0; ahead < AHEADS; ahead++) {
                outside[ahead] += mistake(STRANGE);
            }
            for (int w = 0; w < words.size; w++) {
                int base = w * WIDTH;
                int length = words.lengths[w];
                for (int done = length; done > 0; done--) {
                    long asItsOwn = inside[base + done - 1] + (words.sign(w, done - 1) == sign ? 0 : mistake(OTHER));
                    long asStrange = done < length ? inside[base + done] + mistake(STRANGE) : FAR_PATCHED;
                    inside[base + done] = Math.min(asItsOwn, asStrange);
                }
                inside[base] = FAR_PATCHED;
            }
        }

        private long mistake(int what) {
            return ((long) rules.prices[what] << MISTAKE_BITS) + 1;
        }
    }

    /** LINES and how they are READ. */
    private static final class Lines {
        int size;
        final int[] used = new int[MOST_WORDS];
        int strangeUsed;
        /** The COST that THE NEW WORD was sought for last; NONE: what was found no longer holds. */
        int soughtCost = NONE;
        int bestGain;
        int bestCode;
        private final Words words;
        private final Rules rules;
        private final Row[] held = new Row[MOST_LINES];
        /** By LINE and place: which WORDS stand there, and the ROW of newLength letters there as a code. */
        private final int[] standing = new int[MOST_LINES * LONGEST_LINE];
        private final int[] codes = new int[MOST_LINES * LONGEST_LINE];
        private final int[] least = new int[(LONGEST_LINE + 1) * AHEADS];
        private final int[] byKind = new int[KINDS];
        private final int[] leastOfLine = new int[MOST_LINES];
        private int newLength;
        /** The code of the ROW that is tried as a WORD; 0: none is. */
        private int newCode;

        Lines(Words words, Rules rules) {
            this.words = words;
            this.rules = rules;
            for (int n = 0; n < MOST_LINES; n++) {
                held[n] = new Row(LONGEST_LINE);
            }
        }

        void take(Row draft) {
            if (size >= MOST_LINES) {
                return;
            }
            Row added = held[size];
            added.size = 0;
            for (int i = 0; i < draft.size; i++) {
                added.put(draft.cells[i]);
            }
            size++;
        }

        /** Must come ahead of all that measures: WORDS and LINES do not change during a call. */
        void match() {
            for (int n = 0; n < size; n++) {
                for (int at = 0; at < held[n].size; at++) {
                    standing[n * LONGEST_LINE + at] = words.standingAt(held[n], at);
                }
            }
        }

        int sumOfLeast() {
            int sum = 0;
            for (int n = 0; n < size; n++) {
                sum += measure(n);
            }
            return sum;
        }

        /** The least of a LINE; the least from each place on, behind each KIND, stays in the table. */
        private int measure(int n) {
            int length = held[n].size;
            for (int ahead = 0; ahead < AHEADS; ahead++) {
                least[length * AHEADS + ahead] = 0;
            }
            for (int at = length - 1; at >= 0; at--) {
                measureFrom(n, at);
            }
            return least[NO_KIND];
        }

        private void measureFrom(int n, int at) {
            for (int kind = 0; kind < KINDS; kind++) {
                byKind[kind] = FAR;
            }
            int mask = standing[n * LONGEST_LINE + at];
            for (int w = 0; w < words.size && mask >> w != 0; w++) {
                if ((mask >> w & 1) != 0) {
                    byKind[words.kinds[w]] = Math.min(byKind[words.kinds[w]], leastWith(at, w));
                }
            }
            if (newCode != 0 && codes[n * LONGEST_LINE + at] == newCode) {
                byKind[0] = Math.min(byKind[0], soughtCost + least[(at + newLength) * AHEADS]);
            }
            for (int ahead = 0; ahead < AHEADS; ahead++) {
                int sum = rules.prices[STRANGE] + least[(at + 1) * AHEADS + ahead];
                for (int kind = 0; kind < KINDS; kind++) {
                    if (byKind[kind] < sum && rules.mayCome(ahead, kind)) {
                        sum = byKind[kind];
                    }
                }
                least[at * AHEADS + ahead] = sum;
            }
        }

        private int leastWith(int at, int w) {
            return words.costs[w] + least[(at + words.lengths[w]) * AHEADS + words.kinds[w]];
        }

        void countUses() {
            strangeUsed = 0;
            for (int w = 0; w < MOST_WORDS; w++) {
                used[w] = 0;
            }
            for (int n = 0; n < size; n++) {
                measure(n);
                countUsesOf(n);
            }
        }

        private void countUsesOf(int n) {
            int length = held[n].size;
            int ahead = NO_KIND;
            int at = 0;
            for (int step = 0; step < LONGEST_LINE && at < length; step++) {
                int w = firstWordOfLeast(n, at, ahead);
                if (w == NONE) {
                    strangeUsed++;
                    at++;
                } else {
                    used[w]++;
                    at += words.lengths[w];
                    ahead = words.kinds[w];
                }
            }
        }

        private int firstWordOfLeast(int n, int at, int ahead) {
            int mask = standing[n * LONGEST_LINE + at];
            int sum = least[at * AHEADS + ahead];
            for (int w = 0; w < words.size; w++) {
                if ((mask >> w & 1) != 0 && rules.mayCome(ahead, words.kinds[w]) && leastWith(at, w) == sum) {
                    return w;
                }
            }
            return NONE;
        }

        /** A round of learning behind a count of uses: whether some COST changed. */
        boolean rankCosts() {
            boolean isChanged = false;
            for (int w = 0; w < words.size; w++) {
                int rank = 1;
                for (int v = 0; v < words.size; v++) {
                    if (used[v] > used[w]) {
                        rank++;
                    }
                }
                if (words.costs[w] != rank) {
                    words.costs[w] = rank;
                    isChanged = true;
                }
            }
            return isChanged;
        }

        void seekNew(int cost) {
            if (soughtCost == cost) {
                return;
            }
            soughtCost = cost;
            bestGain = 0;
            bestCode = 0;
            match();
            for (int n = 0; n < size; n++) {
                leastOfLine[n] = measure(n);
            }
            for (int length = SHORTEST_NEW; length <= LONGEST_NEW; length++) {
                newLength = length;
                encode();
                for (int i = 0; i < size * LONGEST_LINE; i++) {
                    tryNew(i);
                }
            }
        }

        private void encode() {
            for (int n = 0; n < size; n++) {
                for (int at = 0; at < LONGEST_LINE; at++) {
                    boolean isThere = at + newLength <= held[n].size;
                    codes[n * LONGEST_LINE + at] = isThere ? codeOf(held[n].cells, at, newLength) : 0;
                }
            }
        }

        private void tryNew(int i) {
            int code = codes[i];
            if (code == 0 || isTriedAhead(i) || isCodeOfWord(code)) {
                return;
            }
            newCode = code;
            int gain = 0;
            for (int n = 0; n < size; n++) {
                if (comesIn(n, code)) {
                    gain += leastOfLine[n] - measure(n);
                }
            }
            newCode = 0;
            if (gain > bestGain || gain == bestGain && gain > 0 && code < bestCode) {
                bestGain = gain;
                bestCode = code;
            }
        }

        private boolean isTriedAhead(int i) {
            for (int earlier = 0; earlier < i; earlier++) {
                if (codes[earlier] == codes[i]) {
                    return true;
                }
            }
            return false;
        }

        private boolean isCodeOfWord(int code) {
            for (int w = 0; w < words.size; w++) {
                if (words.lengths[w] == newLength && codeOf(words.signs, w * LONGEST_WORD, newLength) == code) {
                    return true;
                }
            }
            return false;
        }

        private boolean comesIn(int n, int code) {
            for (int at = 0; at < LONGEST_LINE; at++) {
                if (codes[n * LONGEST_LINE + at] == code) {
                    return true;
                }
            }
            return false;
        }
    }
}
