/** Terms: fractions and shares; promises 29 to 33: who is missed. */
final class EdgeMissed {
    private static final String[] NO_WHAT = {"2", "-1", "NONE", "MIN", "MAX"};

    /** Four in a row who answer one another, each the one ahead of him. */
    private static final String CHAIN = "house 1 4;part0 0;part1 1;part2 2;part3 3;one0 5 0;"
            + "one1 5 0;one2 5 0;one3 5 0;line0;line1;line2;line3;";

    /** 0, whom 2 does not hear, takes line 0 from 1, whom 2 hears. */
    private static final String SPOILER = "house 1 3;part0 0;part1 0;part2 1;one0 0 0;one1 5 0;"
            + "one2 5 0;line0;line1;line1;";

    private EdgeMissed() {
    }

    static void check(Edges e) {
        fractions(e);
        shares(e);
        without(e);
        row(e);
        share(e);
        mean(e);
        luck(e);
    }

    private static void fractions(Edges e) {
        e.sentence(0, "Fractions are in lowest terms, told as 0 the numerator, 1 the denominator, "
                + "which is above 0");
        // 2 / 24 of the orders and 2 / 4 of the odds
        SeatCast x = e.told(CHAIN);
        fraction(e, x, "share(0, ", 25, 12);
        fraction(e, x, "share(3, ", 1, 4);
        fraction(e, x, "mean(5, ", 15, 16);
        fraction(e, x, "mean(0, ", 4, 1);
        fraction(e, x, "luck(5, 0, ", 1, 2);
        fraction(e, x, "luck(5, 3, ", 1, 16);
        fraction(e, x, "luck(1, 3, ", 6561, 10000);
        fraction(e, x, "luck(2, 3, ", 256, 625);
        fraction(e, e.told(SPOILER), "share(0, ", -1, 6);
        e.sentence(0, "(0 is 0 by 1).");
        fraction(e, x, "mean(10, ", 0, 1);
        fraction(e, x, "luck(10, 3, ", 0, 1);
        SeatCast y = e.told("house 1 4;part0 0;one0 5 0;one1 5 0;one2 5 0;one3 5 0;line0;line1;");
        for (int p = 1; p < 4; p++) {
            fraction(e, y, "share(" + p + ", ", 0, 1);
        }
        fraction(e, y, "luck(5, 1, ", 0, 1);
        fraction(e, e.told("one0 0 0;one1 0 0;line0;"), "mean(3, ", 0, 1);
        fraction(e, new SeatCast(), "mean(3, ", 0, 1);
    }

    private static void shares(Edges e) {
        e.sentence(0, "SHARES: PEOPLE (those who are not away) come one behind another, "
                + "in each order alike; by each SPOKEN becomes more (or less) than it was by those "
                + "before alone (the others being away): the mean of that.");
        SeatCast x = e.told(CHAIN);
        fraction(e, x, "share(0, ", 25, 12);
        fraction(e, x, "share(1, ", 13, 12);
        fraction(e, x, "share(2, ", 7, 12);
        fraction(e, x, "share(3, ", 1, 4);
        // those who are away are in no order
        e.calls(x, "sit(1, NONE) = 1");
        fraction(e, x, "share(0, ", 1, 1);
        fraction(e, x, "share(1, ", 0, 1);
        fraction(e, x, "share(2, ", 0, 1);
        SeatCast y = e.told(SPOILER);
        fraction(e, y, "share(0, ", -1, 6);
        fraction(e, y, "share(1, ", 5, 6);
        fraction(e, y, "share(2, ", 1, 3);
        // alone: all that he speaks
        fraction(e, e.told("part0 0;one0 5 0;line0;line0;line0;"), "share(0, ", 3, 1);
    }

    private static void without(Edges e) {
        e.sentence(29, "LINES that are SPOKEN when some PEOPLE (bits) are away.");
        SeatCast x = e.told(CHAIN);
        for (int some = 0; some < 16; some++) {
            e.calls(x, "without(" + some + ") = " + Integer.numberOfTrailingZeros(some | 16));
        }
        SeatCast y = e.told(SPOILER);
        int[] spoken = {1, 3, 1, 0, 1, 1, 1, 0};
        for (int some = 0; some < 8; some++) {
            e.calls(y, "without(" + some + ") = " + spoken[some]);
        }
        // away already; nobody; nothing is changed
        e.calls(y, "sit(0, NONE) = 0", "without(0) = 3", "without(1) = 3", "without(7) = 0",
                "count(0) = 2");
        e.calls(new SeatCast(), "without(0) = 0");
        e.sentence(29, "BAD.");
        e.calls(x, "without(16) = BAD", "without(-1) = BAD", "without(MIN) = BAD",
                "without(MAX) = BAD", "without(17) = BAD", "without(-16) = BAD");
        e.calls(y, "without(8) = BAD", "without(15) = BAD");
        e.calls(new SeatCast(), "without(1) = BAD", "without(-1) = BAD");
    }

    private static void row(Edges e) {
        e.sentence(30, "The ROW whose PEOPLE being away leave fewest LINES SPOKEN, "
                + "of several the first (what 0), how many (1).");
        SeatCast x = e.told("house 3 4;part0 0;part4 0;part8 0;one0 5 0;one4 5 0;one8 5 0;away0 0;"
                + "line0;line0;");
        e.calls(x, "row(0) = 0", "row(1) = 2", "comes(1, 9) = 0", "comes(2, 9) = 0", "row(0) = 0",
                "row(1) = 0", "swap(0, 1) = 4", "row(0) = 1", "row(1) = 0", "swap(0, 2) = 8",
                "row(0) = 2", "row(1) = 0", "night(0) = 2", "one(0, 0) = 8", "swap(3, 1) = 0",
                "comes(3, 1) = 0", "law(1) = 0", "row(0) = 2", "row(1) = 1");
        // one row; nobody; no lines; all who are there are of one row, both to be gone
        e.calls(e.told("house 1 2;part0 0;one0 0 0;line0;"), "row(0) = 0", "row(1) = 0");
        e.calls(new SeatCast(), "row(0) = 0", "row(1) = 0");
        e.calls(e.told("house 2 2;part2 0;part3 0;one2 0 0;one3 0 0;line0;"), "row(0) = 1",
                "row(1) = 0");
        // without any of the rows there is more than now
        SeatCast y = e.told("house 2 2;soft;part0 1;part1 1;part2 0;part3 1;one0 0 4 0 2;one2 4 0 2;"
                + "one1 4 0 1 3;one3 0 3 1 2;line1;line0;line0;line1;line1;line1;line1;");
        e.calls(y, "night(0) = 4", "row(0) = 0", "row(1) = 5");
        e.sentence(30, "BAD.");
        for (String what : NO_WHAT) {
            e.calls(x, "row(" + what + ") = BAD");
            e.calls(new SeatCast(), "row(" + what + ") = BAD");
        }
    }

    private static void share(Edges e) {
        e.sentence(31, "SHARE of a ONE: 0, 1 (a sign is the numerator's; away: 0 by 1).");
        SeatCast x = e.told(SPOILER);
        fraction(e, x, "share(0, ", -1, 6);
        e.calls(x, "sit(0, NONE) = 0");
        fraction(e, x, "share(0, ", 0, 1);
        // 1 speaks one line alone, 2 none, both three
        fraction(e, x, "share(1, ", 2, 1);
        fraction(e, x, "share(2, ", 1, 1);
        e.calls(x, "sit(1, NONE) = 1", "sit(2, NONE) = 2");
        for (int p = 0; p < 3; p++) {
            fraction(e, x, "share(" + p + ", ", 0, 1);
        }
        e.sentence(31, "BAD.");
        e.calls(x, "share(3, 0) = BAD", "share(3, 1) = BAD", "share(-1, 0) = BAD",
                "share(NONE, 0) = BAD", "share(MIN, 0) = BAD", "share(MAX, 1) = BAD");
        for (String what : NO_WHAT) {
            // of one who is away, too
            e.calls(x, "share(0, " + what + ") = BAD");
            e.calls(e.told("one0 0 0;"), "share(0, " + what + ") = BAD");
        }
        e.calls(new SeatCast(), "share(0, 0) = BAD");
    }

    private static void mean(Edges e) {
        e.sentence(32, "Each of PEOPLE who is not away stays away by v out of ten (0 to 10), "
                + "by himself: the mean of LINES SPOKEN: 0, 1.");
        SeatCast one = e.told("house 1 2;part0 0;one0 5 0;line0;line0;line0;");
        long[][] means = {{3, 1}, {27, 10}, {12, 5}, {21, 10}, {9, 5}, {3, 2}, {6, 5}, {9, 10},
            {3, 5}, {3, 10}, {0, 1}};
        for (int v = 0; v <= 10; v++) {
            fraction(e, one, "mean(" + v + ", ", means[v][0], means[v][1]);
        }
        SeatCast x = e.told(CHAIN);
        // .9 and .81 and .729 and .6561
        fraction(e, x, "mean(1, ", 30951, 10000);
        fraction(e, x, "mean(9, ", 1111, 10000);
        // who is away stays away, by no odds
        e.calls(x, "sit(3, NONE) = 3");
        fraction(e, x, "mean(0, ", 3, 1);
        fraction(e, x, "mean(1, ", 2439, 1000);
        fraction(e, e.told(SPOILER), "mean(0, ", 1, 1);
        fraction(e, e.told(SPOILER), "mean(3, ", 301, 250);
        fraction(e, new SeatCast(), "mean(0, ", 0, 1);
        fraction(e, new SeatCast(), "mean(10, ", 0, 1);
        e.sentence(32, "BAD.");
        for (String v : new String[] {"-1", "11", "NONE", "MIN", "MAX"}) {
            e.calls(x, "mean(" + v + ", 0) = BAD", "mean(" + v + ", 1) = BAD");
            e.calls(new SeatCast(), "mean(" + v + ", 0) = BAD");
        }
        for (String what : NO_WHAT) {
            e.calls(x, "mean(0, " + what + ") = BAD", "mean(10, " + what + ") = BAD");
        }
    }

    private static void luck(Edges e) {
        e.sentence(33, "Likewise, that a LINE is SPOKEN: 0, 1.");
        SeatCast x = e.told(CHAIN);
        fraction(e, x, "luck(0, 0, ", 1, 1);
        fraction(e, x, "luck(0, 3, ", 1, 1);
        fraction(e, x, "luck(1, 0, ", 9, 10);
        fraction(e, x, "luck(1, 1, ", 81, 100);
        fraction(e, x, "luck(9, 3, ", 1, 10000);
        fraction(e, x, "luck(10, 0, ", 0, 1);
        SeatCast y = e.told(SPOILER);
        // line 0 by either; line 1 by 2, if 1 is there and 0 is not
        fraction(e, y, "luck(3, 0, ", 91, 100);
        fraction(e, y, "luck(3, 1, ", 147, 1000);
        fraction(e, y, "luck(0, 1, ", 0, 1);
        e.calls(y, "sit(0, NONE) = 0");
        fraction(e, y, "luck(3, 1, ", 49, 100);
        SeatCast nobody = e.told("line0;line0;line0;line0;line0;line0;line0;line0;");
        fraction(e, nobody, "luck(0, 7, ", 0, 1);
        e.sentence(33, "BAD.");
        for (String v : new String[] {"-1", "11", "NONE", "MIN", "MAX"}) {
            e.calls(x, "luck(" + v + ", 0, 0) = BAD", "luck(" + v + ", 0, 1) = BAD");
        }
        for (String i : new String[] {"-1", "4", "8", "NONE", "MIN", "MAX"}) {
            e.calls(x, "luck(0, " + i + ", 0) = BAD", "luck(10, " + i + ", 1) = BAD");
        }
        for (String what : NO_WHAT) {
            e.calls(x, "luck(0, 0, " + what + ") = BAD", "luck(10, 0, " + what + ") = BAD");
        }
        e.calls(nobody, "luck(0, 8, 0) = BAD");
        e.calls(new SeatCast(), "luck(0, 0, 0) = BAD", "luck(0, 0, 1) = BAD");
    }

    private static void fraction(Edges e, SeatCast x, String call, long top, long bottom) {
        e.calls(x, call + "0) = " + top, call + "1) = " + bottom);
    }
}
