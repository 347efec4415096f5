/**
 * All that calls show of an object, as a text: two objects in like states show the same.
 * The last of the calls change the object, to bring to light what no other call shows: THE TEXT, FOLLOWS,
 * prices and THE DRAFT's letters. Behind fewer than 100 calls this stays within an object's 512 calls.
 */
final class Seen {
    private final StringBuilder seen = new StringBuilder();
    private final RunTogether x;

    private Seen(RunTogether x) {
        this.x = x;
    }

    static String of(RunTogether x) {
        Seen all = new Seen(x);
        int draft = x.count(2);
        all.words();
        all.draft(draft);
        all.within();
        all.lines();
        all.textAndRules();
        all.lettersOfDraft(draft);
        return all.seen.toString();
    }

    private void see(String what, long answer) {
        seen.append(what).append('=').append(answer).append(' ');
    }

    private void words() {
        for (int what = 0; what < 5; what++) see("count" + what, x.count(what));
        see("fault", x.fault());
        int words = x.count(1);
        for (int w = 0; w < words; w++) {
            int length = x.word(w, 2);
            for (int what = 0; what < 3 + length; what++) see("word" + w + "." + what, x.word(w, what));
        }
    }

    private void draft(int length) {
        see("readings", x.readings());
        for (int j = 0; j < 3; j++) see("reading0." + j, x.reading(0, j));
        see("reading1.1", x.reading(1, 1));
        for (int what = 0; what < 4; what++) see("best" + what, x.best(what));
        for (int j = 0; j < 3; j++) see("cheapest" + j, x.cheapest(j));
        for (int place = 0; place <= length; place += 3) see("end" + place, x.end(place));
        for (int what = 0; what < 2; what++) see("patched" + what, x.patched(what));
    }

    private void within() {
        for (int what = 0; what < 3; what++) see("within" + what, x.within(what));
        for (int i = -1; i < 2; i++) see("key" + i, x.key(i));
        for (int i = -1; i < 2; i++) see("strange" + i, x.strange(i));
        see("ways", x.ways(9));
        see("rows", x.rows(9));
    }

    private void lines() {
        int words = x.count(1);
        see("totals", x.totals());
        for (int w = -1; w < words; w++) see("uses" + w, x.uses(w));
        for (int what = 0; what < 4; what++) see("fresh" + what, x.fresh(1, what));
    }

    private void textAndRules() {
        see("read", x.read());
        see("fault", x.fault());
        see("words", x.count(1));
        for (int what = 0; what < 3; what++) see("price" + what, x.price(what, 1));
        for (int i = 0; i < 4; i++) {
            for (int j = 0; j < 4; j++) see("follows" + i + j, x.follows(i, j, true));
        }
    }

    /** With a WORD for each letter that is there, the one READING spells THE DRAFT. */
    private void lettersOfDraft(int length) {
        Told.tell(x, "a;b;c;d;e;f;g;h;".substring(0, 2 * x.count(0)));
        for (int j = 0; j < length; j++) see("letter" + j, x.reading(0, j));
    }
}
