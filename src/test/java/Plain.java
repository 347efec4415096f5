import java.math.BigInteger;
import java.util.ArrayList;
import java.util.Arrays;
import java.util.HashMap;
import java.util.LinkedHashMap;
import java.util.List;
import java.util.Map;
import java.util.PriorityQueue;
import java.util.Set;
import java.util.TreeSet;

/**
 * The document once more, as plainly as the Java library allows and by other ways than the program goes:
 * what ModelTest holds the program against.
 */
final class Plain {
    static final int NONE = -1, UNKNOWN = -1001, OUTSIDE = -1002, NOT = -1003, FULL = -1004, LARGE = -1005;
    private static final BigInteger TEN15 = BigInteger.TEN.pow(15);
    private static final BigInteger TEN9 = BigInteger.TEN.pow(9);

    record W(String row, int cost, int kind) { }

    record Fault(int at, int number) { }

    private int k = 2;
    private List<W> words = new ArrayList<>();
    private final List<Integer> text = new ArrayList<>();
    private int faultAt = NONE;
    private final boolean[][] follow = new boolean[4][4];
    private String draft = "";
    private final List<String> lines = new ArrayList<>();
    private final int[] prices = {3, 4, 5};

    Plain() {
        for (boolean[] row : follow) Arrays.fill(row, true);
    }

    int letters(int n) {
        if (n < 2 || n > 8) return OUTSIDE;
        k = n;
        words = new ArrayList<>();
        lines.clear();
        draft = "";
        return n;
    }

    int feed(int n, long bytes) {
        if (n < 1 || n > 8) return OUTSIDE;
        if (text.size() + n > 200) return FULL;
        byte[] all = java.nio.ByteBuffer.allocate(8).putLong(bytes).array();
        for (int i = 8 - n; i < 8; i++) text.add(all[i] & 255);
        return text.size();
    }

    /** All faults up to the one at which nothing further can be told are collected; the first byte, then the least number, counts. */
    int read() {
        List<Fault> faults = new ArrayList<>();
        List<W> told = new ArrayList<>();
        scan(faults, told);
        text.clear();
        faultAt = NONE;
        if (faults.isEmpty()) {
            words = told;
            return words.size();
        }
        Fault first = faults.get(0);
        for (Fault f : faults) {
            if (f.at < first.at || f.at == first.at && f.number < first.number) first = f;
        }
        faultAt = first.at;
        return -10 - first.number;
    }

    private enum In { START, LETTERS, COLON, N, BEHIND_N, SLASH, K, BEHIND_K }

    private void scan(List<Fault> faults, List<W> told) {
        In in = In.START;
        String row = "";
        String cost = "";
        String kind = "";
        int rowAt = 0;
        int costAt = 0;
        int kindAt = 0;
        for (int at = 0; at <= text.size(); at++) {
            int c = at < text.size() ? text.get(at) : -1;
            boolean isLetter = c >= 'a' && c <= 'h';
            boolean isFigure = c >= '0' && c <= '9';
            if (c == ' ') {
                if (in == In.N) in = In.BEHIND_N;
                if (in == In.K) in = In.BEHIND_K;
                continue;
            }
            if (isLetter && (in == In.START || in == In.LETTERS)) {
                if (in == In.START) {
                    rowAt = at;
                    row = "";
                    cost = "";
                    kind = "";
                    if (told.size() == 16) faults.add(new Fault(at, 5));
                }
                if (c - 'a' >= k) faults.add(new Fault(at, 2));
                if (row.length() == 8) faults.add(new Fault(at, 3));
                if (!faults.isEmpty()) return;
                row += (char) c;
                in = In.LETTERS;
                continue;
            }
            if (in == In.LETTERS) {
                for (W w : told) if (w.row.equals(row)) faults.add(new Fault(rowAt, 4));
            }
            boolean hasCost = in == In.N || in == In.BEHIND_N;
            boolean hasKind = in == In.K || in == In.BEHIND_K;
            if (isFigure && (in == In.COLON || in == In.N)) {
                if (in == In.COLON) costAt = at;
                cost += (char) c;
                if (cost.length() == 3) faults.add(new Fault(costAt, 2));
                in = In.N;
            } else if (isFigure && (in == In.SLASH || in == In.K)) {
                if (in == In.SLASH) kindAt = at;
                kind += (char) c;
                if (kind.length() == 2 || kind.charAt(0) > '3') faults.add(new Fault(kindAt, 2));
                in = In.K;
            } else if (c == ':' && in == In.LETTERS) {
                in = In.COLON;
            } else if (c == '/' && (in == In.LETTERS || hasCost)) {
                in = In.SLASH;
            } else if (c == ';' && (in == In.LETTERS || hasCost || hasKind)) {
                told.add(new W(row, cost.isEmpty() ? 1 : Integer.parseInt(cost.substring(0, Math.min(2, cost.length()))),
                        kind.isEmpty() ? 0 : kind.charAt(0) - '0'));
                in = In.START;
            } else if (c == -1 && in == In.START) {
                return;
            } else {
                faults.add(new Fault(at, 1));
                return;
            }
        }
    }

    int fault() { return faultAt; }

    private boolean has(int w) { return w >= 0 && w < words.size(); }

    int word(int w, int what) {
        if (!has(w)) return UNKNOWN;
        if (what < 0 || what > 10) return OUTSIDE;
        W x = words.get(w);
        if (what == 0) return x.cost;
        if (what == 1) return x.kind;
        if (what == 2) return x.row.length();
        return what - 3 < x.row.length() ? x.row.charAt(what - 3) - 'a' : NONE;
    }

    int follows(int i, int j, boolean is) {
        if (i < 0 || i > 3 || j < 0 || j > 3) return OUTSIDE;
        int was = follow[i][j] ? 1 : 0;
        follow[i][j] = is;
        return was;
    }

    int count(int what) {
        if (what < 0 || what > 4) return OUTSIDE;
        return new int[] {k, words.size(), draft.length(), text.size(), lines.size()}[what];
    }

    int letter(int a) {
        if (a < 0 || a >= k) return OUTSIDE;
        if (draft.length() == 48) return FULL;
        draft += (char) ('a' + a);
        return draft.length();
    }

    int append(int w) {
        if (!has(w)) return UNKNOWN;
        if (draft.length() + words.get(w).row.length() > 48) return FULL;
        draft += words.get(w).row;
        return draft.length();
    }

    int clear() {
        int had = draft.length();
        draft = "";
        return had;
    }

    // ---- readings: counted forwards and backwards in big numbers

    private boolean may(int ahead, int kind) { return ahead == 4 || follow[ahead][kind]; }

    private BigInteger[][] ahead() {
        BigInteger[][] f = zeros();
        f[0][4] = BigInteger.ONE;
        for (int p = 0; p < draft.length(); p++) {
            for (W w : words) {
                if (!draft.startsWith(w.row, p)) continue;
                for (int a = 0; a < 5; a++) {
                    if (!may(a, w.kind)) continue;
                    int q = p + w.row.length();
                    f[q][w.kind] = f[q][w.kind].add(f[p][a]);
                }
            }
        }
        return f;
    }

    private BigInteger[][] behind() {
        BigInteger[][] g = zeros();
        for (int a = 0; a < 5; a++) g[draft.length()][a] = BigInteger.ONE;
        for (int p = draft.length() - 1; p >= 0; p--) {
            for (W w : words) {
                if (!draft.startsWith(w.row, p)) continue;
                for (int a = 0; a < 5; a++) {
                    if (may(a, w.kind)) g[p][a] = g[p][a].add(g[p + w.row.length()][w.kind]);
                }
            }
        }
        return g;
    }

    private BigInteger[][] zeros() {
        BigInteger[][] z = new BigInteger[draft.length() + 1][5];
        for (BigInteger[] row : z) Arrays.fill(row, BigInteger.ZERO);
        return z;
    }

    private BigInteger total() {
        BigInteger sum = BigInteger.ZERO;
        for (BigInteger b : ahead()[draft.length()]) sum = sum.add(b);
        return sum;
    }

    long readings() {
        BigInteger n = total();
        return n.compareTo(TEN15) > 0 ? LARGE : n.longValue();
    }

    int reading(long i, int j) {
        if (i < 0 || i > 1000000000000000L) return OUTSIDE;
        BigInteger left = BigInteger.valueOf(i);
        BigInteger[][] g = behind();
        if (left.compareTo(g[0][4]) >= 0) return NONE;
        List<Integer> found = new ArrayList<>();
        int p = 0;
        int a = 4;
        while (p < draft.length()) {
            for (int w = 0; w < words.size(); w++) {
                W x = words.get(w);
                if (!draft.startsWith(x.row, p) || !may(a, x.kind)) continue;
                BigInteger here = g[p + x.row.length()][x.kind];
                if (left.compareTo(here) < 0) {
                    found.add(w);
                    p += x.row.length();
                    a = x.kind;
                    break;
                }
                left = left.subtract(here);
            }
        }
        return j >= 0 && j < found.size() ? found.get(j) : NONE;
    }

    /** Forwards: for each place and KIND how many READINGS have which COST or number of WORDS. */
    private Map<Integer, BigInteger> spread(boolean byCost) {
        List<Map<String, BigInteger>> at = new ArrayList<>();
        for (int p = 0; p <= draft.length(); p++) at.add(new LinkedHashMap<>());
        at.get(0).put("4 0", BigInteger.ONE);
        for (int p = 0; p < draft.length(); p++) {
            for (Map.Entry<String, BigInteger> e : at.get(p).entrySet()) {
                String[] parts = e.getKey().split(" ");
                for (W w : words) {
                    if (!draft.startsWith(w.row, p) || !may(Integer.parseInt(parts[0]), w.kind)) continue;
                    int sum = Integer.parseInt(parts[1]) + (byCost ? w.cost : 1);
                    at.get(p + w.row.length()).merge(w.kind + " " + sum, e.getValue(), BigInteger::add);
                }
            }
        }
        Map<Integer, BigInteger> sums = new HashMap<>();
        for (Map.Entry<String, BigInteger> e : at.get(draft.length()).entrySet()) {
            sums.merge(Integer.parseInt(e.getKey().split(" ")[1]), e.getValue(), BigInteger::add);
        }
        return sums;
    }

    int best(int what) {
        if (what < 0 || what > 3) return OUTSIDE;
        Map<Integer, BigInteger> sums = spread(what < 2);
        if (sums.isEmpty()) return what == 1 ? 0 : NONE;
        int least = sums.keySet().stream().min(Integer::compare).get();
        if (what == 1) return sums.get(least).compareTo(TEN9) > 0 ? LARGE : sums.get(least).intValue();
        return what == 3 ? sums.keySet().stream().max(Integer::compare).get() : least;
    }

    record Path(int cost, List<Integer> steps) { }

    private static boolean isAhead(Path x, Path y) {
        if (y == null) return true;
        if (x.cost != y.cost) return x.cost < y.cost;
        for (int i = 0; i < Math.min(x.steps.size(), y.steps.size()); i++) {
            if (!x.steps.get(i).equals(y.steps.get(i))) return x.steps.get(i) < y.steps.get(i);
        }
        return x.steps.size() < y.steps.size();
    }

    private Path path(String row, int from, int a, int strangePrice, Map<Integer, Path> known) {
        if (from == row.length()) return new Path(0, List.of());
        int id = from * 5 + a;
        if (known.containsKey(id)) return known.get(id);
        Path best = null;
        for (int w = 0; w < words.size(); w++) {
            W x = words.get(w);
            if (!row.startsWith(x.row, from) || !may(a, x.kind)) continue;
            Path rest = path(row, from + x.row.length(), x.kind, strangePrice, known);
            if (rest != null) best = better(best, rest, x.cost, w);
        }
        if (strangePrice >= 0) {
            best = better(best, path(row, from + 1, a, strangePrice, known), strangePrice, 99);
        }
        known.put(id, best);
        return best;
    }

    private static Path better(Path best, Path rest, int cost, int step) {
        List<Integer> steps = new ArrayList<>();
        steps.add(step);
        steps.addAll(rest.steps);
        Path path = new Path(cost + rest.cost, steps);
        return isAhead(path, best) ? path : best;
    }

    int cheapest(int j) {
        Path best = path(draft, 0, 4, -1, new HashMap<>());
        return best != null && j >= 0 && j < best.steps.size() ? best.steps.get(j) : NONE;
    }

    int end(int place) {
        if (place < 0 || place > draft.length()) return OUTSIDE;
        BigInteger[][] f = ahead();
        BigInteger[][] g = behind();
        BigInteger there = BigInteger.ZERO;
        for (int a = 0; a < 5; a++) there = there.add(f[place][a].multiply(g[place][a]));
        if (there.signum() == 0) return 0;
        return there.equals(total()) ? 2 : 1;
    }

    // ---- words in words

    int within(int what) {
        if (what < 0 || what > 2) return OUTSIDE;
        int n = 0;
        for (W v : words) {
            if (what == 2) {
                if (hides(v.row)) n++;
                continue;
            }
            for (W w : words) {
                if (v == w) continue;
                if (what == 0 ? w.row.startsWith(v.row) : w.row.endsWith(v.row)) n++;
            }
        }
        return n;
    }

    private boolean hides(String v) {
        for (W x : words) {
            for (W y : words) {
                String both = x.row + y.row;
                for (int at = both.indexOf(v); at >= 0; at = both.indexOf(v, at + 1)) {
                    if (at == 0 && v.equals(x.row)) continue;
                    if (at == x.row.length() && v.equals(y.row)) continue;
                    return true;
                }
            }
        }
        return false;
    }

    /** Places are "" for an end of a WORD and otherwise number, dot, how many letters are read. */
    private Set<String> step(Set<String> state, char c) {
        Set<String> next = new TreeSet<>();
        for (String place : state) {
            if (place.isEmpty()) {
                for (int w = 0; w < words.size(); w++) move(next, w, 0, c);
            } else {
                int dot = place.indexOf('.');
                move(next, Integer.parseInt(place.substring(0, dot)), Integer.parseInt(place.substring(dot + 1)), c);
            }
        }
        return next;
    }

    private void move(Set<String> next, int w, int done, char c) {
        String row = words.get(w).row;
        if (row.charAt(done) != c) return;
        next.add(done + 1 == row.length() ? "" : w + "." + (done + 1));
    }

    private Set<String> anywhere() {
        Set<String> all = new TreeSet<>();
        all.add("");
        for (int w = 0; w < words.size(); w++) {
            for (int i = 1; i < words.get(w).row.length(); i++) all.add(w + "." + i);
        }
        return all;
    }

    /** The row, "none" or "large". */
    private String shortest(boolean key) {
        Set<String> end = new TreeSet<>();
        end.add("");
        Map<Set<String>, String> seen = new LinkedHashMap<>();
        seen.put(anywhere(), "");
        if (key && anywhere().equals(end)) return "";
        List<Set<String>> now = List.of(anywhere());
        for (int length = 1; length <= 12; length++) {
            List<Set<String>> then = new ArrayList<>();
            for (Set<String> state : now) {
                for (int a = 0; a < k; a++) {
                    Set<String> next = step(state, (char) ('a' + a));
                    String row = seen.get(state) + (char) ('a' + a);
                    if (key ? next.equals(end) : next.isEmpty()) return row;
                    if (next.isEmpty() || seen.containsKey(next)) continue;
                    seen.put(next, row);
                    then.add(next);
                    if (seen.size() > 2000) return "large";
                }
            }
            now = then;
        }
        return "none";
    }

    private int part(String row, int i) {
        if (row.equals("large")) return LARGE;
        if (row.equals("none")) return NONE;
        if (i == NONE) return row.length();
        return i >= 0 && i < row.length() ? row.charAt(i) - 'a' : NONE;
    }

    int key(int i) { return words.isEmpty() ? NOT : part(shortest(true), i); }

    int strange(int i) { return words.isEmpty() ? NOT : part(shortest(false), i); }

    long ways(int n) {
        if (n < 0 || n > 40) return OUTSIDE;
        BigInteger[] to = new BigInteger[n + 9];
        Arrays.fill(to, BigInteger.ZERO);
        to[0] = BigInteger.ONE;
        for (int p = 0; p < n; p++) {
            for (W w : words) to[p + w.row.length()] = to[p + w.row.length()].add(to[p]);
        }
        return to[n].compareTo(TEN15) > 0 ? LARGE : to[n].longValue();
    }

    long rows(int n) {
        if (n < 0 || n > 20) return OUTSIDE;
        Map<Set<String>, BigInteger> now = new LinkedHashMap<>();
        now.put(new TreeSet<>(List.of("")), BigInteger.ONE);
        Set<Set<String>> seen = new java.util.HashSet<>(now.keySet());
        for (int length = 1; length <= n; length++) {
            Map<Set<String>, BigInteger> then = new LinkedHashMap<>();
            for (Map.Entry<Set<String>, BigInteger> e : now.entrySet()) {
                for (int a = 0; a < k; a++) {
                    Set<String> next = step(e.getKey(), (char) ('a' + a));
                    if (!next.isEmpty()) then.merge(next, e.getValue(), BigInteger::add);
                }
            }
            seen.addAll(then.keySet());
            if (seen.size() > 2000) return LARGE;
            now = then;
        }
        BigInteger sum = BigInteger.ZERO;
        for (Map.Entry<Set<String>, BigInteger> e : now.entrySet()) {
            if (e.getKey().contains("")) sum = sum.add(e.getValue());
        }
        return sum.compareTo(TEN15) > 0 ? LARGE : sum.longValue();
    }

    // ---- mistakes: the nearest way through places of the draft and of the words

    int price(int what, int v) {
        if (what < 0 || what > 2 || v < 0 || v > 99) return OUTSIDE;
        int was = prices[what];
        prices[what] = v;
        return was;
    }

    int patched(int what) {
        if (what < 0 || what > 1) return OUTSIDE;
        PriorityQueue<int[]> open = new PriorityQueue<>((x, y) ->
                x[0] != y[0] ? Integer.compare(x[0], y[0]) : Integer.compare(x[1], y[1]));
        Set<List<Integer>> done = new java.util.HashSet<>();
        open.add(new int[] {0, 0, 0, 4, -1, 0});
        while (!open.isEmpty()) {
            int[] s = open.poll();
            int at = s[2];
            int kind = s[3];
            int w = s[4];
            int i = s[5];
            if (!done.add(List.of(at, w < 0 ? kind : 9, w, i))) continue;
            if (w < 0 && at == draft.length()) return what == 0 ? s[0] : s[1];
            if (at < draft.length()) open.add(new int[] {s[0] + prices[2], s[1] + 1, at + 1, kind, w, i});
            if (w < 0) {
                for (int v = 0; v < words.size(); v++) {
                    W x = words.get(v);
                    if (may(kind, x.kind)) open.add(new int[] {s[0] + x.cost, s[1], at, x.kind, v, 0});
                }
                continue;
            }
            String row = words.get(w).row;
            if (i == row.length()) {
                open.add(new int[] {s[0], s[1], at, kind, -1, 0});
                continue;
            }
            open.add(new int[] {s[0] + prices[1], s[1] + 1, at, kind, w, i + 1});
            if (at < draft.length()) {
                boolean like = draft.charAt(at) == row.charAt(i);
                open.add(new int[] {s[0] + (like ? 0 : prices[0]), s[1] + (like ? 0 : 1), at + 1, kind, w, i + 1});
            }
        }
        throw new IllegalStateException("no way to the end");
    }

    // ---- lines

    int line() {
        if (draft.isEmpty() || draft.length() > 24) return OUTSIDE;
        if (lines.size() == 4) return FULL;
        lines.add(draft);
        draft = "";
        return lines.size();
    }

    int drop() {
        int were = lines.size();
        lines.clear();
        return were;
    }

    private Path first(String row) { return path(row, 0, 4, prices[2], new HashMap<>()); }

    int totals() {
        int sum = 0;
        for (String row : lines) sum += first(row).cost;
        return sum;
    }

    int uses(int w) {
        if (w != NONE && !has(w)) return UNKNOWN;
        int n = 0;
        for (String row : lines) {
            for (int step : first(row).steps) if (step == (w == NONE ? 99 : w)) n++;
        }
        return n;
    }

    int learn(int n) {
        if (n < 1 || n > 20) return OUTSIDE;
        for (int round = 1; round <= n; round++) {
            int[] used = new int[words.size()];
            for (int w = 0; w < used.length; w++) used[w] = uses(w);
            List<W> then = new ArrayList<>();
            for (int w = 0; w < used.length; w++) {
                int mine = used[w];
                int more = (int) Arrays.stream(used).filter(u -> u > mine).count();
                then.add(new W(words.get(w).row, 1 + more, words.get(w).kind));
            }
            if (then.equals(words)) return round - 1;
            words = then;
        }
        return NONE;
    }

    int fresh(int cost, int what) {
        if (cost < 0 || cost > 99 || what < 0 || what > 6) return OUTSIDE;
        if (words.size() == 16) return NOT;
        TreeSet<String> candidates = new TreeSet<>();
        for (String row : lines) {
            for (int from = 0; from < row.length(); from++) {
                for (int to = from + 2; to <= Math.min(row.length(), from + 5); to++) candidates.add(row.substring(from, to));
            }
        }
        for (W w : words) candidates.remove(w.row);
        int total = totals();
        int most = 0;
        String found = null;
        for (String candidate : candidates) {
            words.add(new W(candidate, cost, 0));
            int less = total - totals();
            words.remove(words.size() - 1);
            if (less > most) {
                most = less;
                found = candidate;
            }
        }
        if (found == null) return NONE;
        if (what == 0) return most;
        if (what == 1) return found.length();
        return what - 2 < found.length() ? found.charAt(what - 2) - 'a' : NONE;
    }
}
