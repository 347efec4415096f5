/** Counts answers that are not the ones that are due, and says each of them. */
final class Due {
    private int wrong = 0;
    private int asked = 0;
    private String sentence = "";

    /** What is asked from here on is said by these words of the document: SentencesTest holds them against it. */
    void says(String section, String words) {
        sentence = section + ", '" + words + "': ";
    }

    void is(String call, long got, long want) {
        asked++;
        if (got != want) blame(call + " answered " + got + ", due is " + want);
    }

    void holds(String what, boolean holds) {
        asked++;
        if (!holds) blame(what);
    }

    /** Two objects show the same. */
    void alike(String what, String got, String want) {
        asked++;
        if (!got.equals(want)) blame(what + ": seen is [" + got + "], due is [" + want + "]");
    }

    private void blame(String what) {
        wrong++;
        if (wrong <= 40) System.out.println(sentence + what);
    }

    boolean isRight() {
        return wrong == 0;
    }

    /** Ends the test: with exit code 1 if an answer was wrong, or if none was asked for. */
    void close() {
        System.out.println(asked + " answers asked for, " + wrong + " of them not as due");
        if (wrong != 0 || asked == 0) System.exit(1);
    }
}
