/** Short ways to bring an object to where a test begins. */
final class Told {
    /** As many words as there can be. */
    static final String SIXTEEN = "a;b;aa;ab;ba;bb;aaa;aab;aba;abb;baa;bab;bba;bbb;aaaa;aaab;";

    private Told() { }

    /** Feeds the whole text, eight bytes a call, and reads it. */
    static int tell(RunTogether x, String text) {
        for (int at = 0; at < text.length(); at += 8) {
            int n = Math.min(8, text.length() - at);
            long bytes = 0;
            for (int i = 0; i < n; i++) bytes = bytes << 8 | text.charAt(at + i);
            x.feed(n, bytes);
        }
        return x.read();
    }

    static RunTogether with(int k, String text) {
        RunTogether x = new RunTogether();
        x.letters(k);
        tell(x, text);
        return x;
    }

    /** THE DRAFT becomes the row. */
    static void write(RunTogether x, String row) {
        x.clear();
        for (int i = 0; i < row.length(); i++) x.letter(row.charAt(i) - 'a');
    }

    static void lines(RunTogether x, String... rows) {
        x.drop();
        for (String row : rows) {
            write(x, row);
            x.line();
        }
    }
}
