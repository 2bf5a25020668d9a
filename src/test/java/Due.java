/** Counts the answers that are as due, and prints the others, for one test class. */
final class Due {
    private final String test;
    private int right;
    private int wrong;

    Due(String test) {
        this.test = test;
    }

    /** One answer of a promise: what the call answered and what is due. */
    void due(int promise, String call, long got, long want) {
        if (got == want) {
            right++;
            return;
        }
        wrong++;
        System.out.println(test + ", promise " + promise + ": " + call + " answered " + got
                + ", due is " + want);
    }

    /** Feeds a text and has it told: what text() answers. */
    static int tell(SeatCast cast, String text) {
        for (int n = 0; n < text.length(); n++) {
            cast.feed(text.charAt(n));
        }
        return cast.text();
    }

    /** A new object that was told a text without a fault. */
    static SeatCast told(String text) {
        SeatCast cast = new SeatCast();
        int answer = tell(cast, text);
        if (answer < 0) {
            throw new IllegalStateException("the test's own text has a fault: " + answer);
        }
        return cast;
    }

    /** Prints how it went; exits with 1 if an answer was not as due. */
    void close() {
        System.out.println(test + ": " + right + " answers as due, " + wrong + " not");
        if (wrong != 0 || right == 0) {
            System.exit(1);
        }
    }
}
