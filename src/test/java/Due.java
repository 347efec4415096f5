/** Counts answers that are not the ones that are due, and says each of them. */
final class Due {
    private int wrong = 0;
    private int asked = 0;

    void is(String call, long got, long want) {
        asked++;
        if (got != want) {
            wrong++;
            if (wrong <= 40) System.out.println(call + " answered " + got + ", due is " + want);
        }
    }

    boolean isRight() {
        return wrong == 0;
    }

    /** Ends the test: with exit code 1 if an answer was wrong, or if none was asked for. */
    void close() {
        System.out.println(asked + " answers asked for, " + wrong + " of them not as due");
        if (wrong != 0 || asked == 0) System.exit(1);
    }
}
