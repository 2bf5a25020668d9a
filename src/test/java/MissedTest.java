/** Promises 29 to 33: who is missed. */
final class MissedTest {
    private static final Due DUE = new Due("MissedTest");
    private static final int NONE = SeatCast.NONE;
    private static final int BAD = SeatCast.BAD;

    private static final String PLAY = "house 2 3;part 0 0;part 2 1;part 3 2;part 5 1;one 0 1 0 1;"
            + "one 2 3 0;one 3 2 1 0;line 0;line 1;line 2;scene 1;line 0;line 2;";

    /** Two who need each other: alone 0 speaks one line, 1 none; both speak two. */
    private static final String PAIR = "house 1 2;part 0 0;part 1 1;one 0 1 0;one 1 1 0;"
            + "line 0;line 1;";

    /** 0 takes the first line from 1, whom alone 2 hears. By 0: 1, 1: 1, 2: 0, 12: 3, all others: 1. */
    private static final String SPOILER = "house 1 3;part 0 0;part 1 0;part 2 1;one 0 0 0;one 1 5 0;"
            + "one 2 5 0;line 0;line 1;line 1;";

    public static void main(String[] args) {
        without();
        row();
        share();
        shareBelowNought();
        mean();
        luck();
        DUE.close();
    }

    private static void without() {
        SeatCast x = Due.told(PLAY);
        int[] spoken = {2, 1, 1, 0, 2, 1, 1, 0};
        for (int some = 0; some < spoken.length; some++) {
            DUE.due(29, "without(" + some + ")", x.without(some), spoken[some]);
        }
        DUE.due(29, "without(8)", x.without(8), BAD);
        DUE.due(29, "without(-1)", x.without(-1), BAD);
        DUE.due(29, "night(0), nothing is changed", x.night(0), 2);
        SeatCast y = Due.told(SPOILER);
        DUE.due(29, "without(0)", y.without(0), 1);
        DUE.due(29, "without(1), more than with him", y.without(1), 3);
        y.sit(0, NONE);
        DUE.due(29, "without(1), away already", y.without(1), 3);
        DUE.due(29, "without(0), nobody", new SeatCast().without(0), 0);
        DUE.due(29, "without(1), nobody", new SeatCast().without(1), BAD);
    }

    private static void row() {
        SeatCast x = Due.told(PLAY);
        DUE.due(30, "row(0)", x.row(0), 0);
        DUE.due(30, "row(1)", x.row(1), 0);
        DUE.due(30, "row(2)", x.row(2), BAD);
        DUE.due(30, "row(-1)", x.row(-1), BAD);
        SeatCast y = Due.told("house 3 2;part 2 0;part 4 1;one 2 5 0;one 4 5 0;"
                + "line 0;line 1;scene 1;");
        DUE.due(30, "row(0), the second", y.row(0), 1);
        DUE.due(30, "row(1), the second", y.row(1), 1);
        y.law(1);
        DUE.due(30, "row(0), the last", y.row(0), 2);
        DUE.due(30, "row(1), the last", y.row(1), 1);
        y.sit(1, 3);
        DUE.due(30, "row(0), two of a row", y.row(0), 1);
        DUE.due(30, "row(1), two of a row", y.row(1), 0);
        y.sit(0, NONE);
        y.sit(1, NONE);
        DUE.due(30, "row(0), of several the first", y.row(0), 0);
        SeatCast z = Due.told("part 0 0;part 3 0;one 0 0 0;one 3 0 0;line 0;line 0;line 0;line 0;"
                + "line 0;line 0;line 0;line 0;");
        DUE.due(30, "row(0), all lines by either", z.row(0), 0);
        DUE.due(30, "row(1), all lines by either", z.row(1), 8);
        DUE.due(30, "row(0), nobody", new SeatCast().row(0), 0);
        DUE.due(30, "row(1), nobody", new SeatCast().row(1), 0);
    }

    private static void share() {
        SeatCast x = Due.told(PLAY);
        shareOf(x, 0, 1, 1);
        shareOf(x, 1, 1, 1);
        shareOf(x, 2, 0, 1);
        DUE.due(31, "share(3, 0)", x.share(3, 0), BAD);
        DUE.due(31, "share(-1, 0)", x.share(-1, 0), BAD);
        DUE.due(31, "share(0, 2)", x.share(0, 2), BAD);
        DUE.due(31, "share(0, -1)", x.share(0, -1), BAD);
        SeatCast y = Due.told(PAIR);
        shareOf(y, 0, 3, 2);
        shareOf(y, 1, 1, 2);
        y.sit(1, NONE);
        shareOf(y, 0, 1, 1);
        shareOf(y, 1, 0, 1);
        y.sit(0, NONE);
        shareOf(y, 0, 0, 1);
        DUE.due(31, "share(0, 0), nobody", new SeatCast().share(0, 0), BAD);
    }

    private static void shareBelowNought() {
        SeatCast x = Due.told(SPOILER);
        shareOf(x, 0, -1, 6);
        shareOf(x, 1, 5, 6);
        shareOf(x, 2, 1, 3);
        // four of them, one of no use
        SeatCast y = Due.told("house 1 4;part 0 0;part 1 0;part 2 1;one 0 0 0;one 1 5 0;"
                + "one 2 5 0;one 3 0 0;line 0;line 1;line 1;");
        shareOf(y, 0, -1, 6);
        shareOf(y, 3, 0, 1);
        // four who are needed all for the last line
        SeatCast z = Due.told("house 1 4;part 0 0;part 1 1;part 2 2;part 3 3;one 0 5 0;one 1 5 0;"
                + "one 2 5 0;one 3 5 0;line 0;line 1;line 2;line 3;");
        shareOf(z, 0, 25, 12);
        shareOf(z, 1, 13, 12);
        shareOf(z, 2, 7, 12);
        shareOf(z, 3, 1, 4);
        DUE.due(30, "row(0), four of a row", z.row(0), 0);
        DUE.due(30, "row(1), four of a row", z.row(1), 0);
        z.sit(0, NONE);
        z.law(1);
        shareOf(z, 0, 0, 1);
        shareOf(z, 1, 1, 1);
    }

    private static void mean() {
        SeatCast x = Due.told(PAIR);
        meanOf(x, 0, 2, 1);
        meanOf(x, 1, 171, 100);
        meanOf(x, 5, 3, 4);
        meanOf(x, 10, 0, 1);
        DUE.due(32, "mean(-1, 0)", x.mean(-1, 0), BAD);
        DUE.due(32, "mean(11, 0)", x.mean(11, 0), BAD);
        DUE.due(32, "mean(0, 2)", x.mean(0, 2), BAD);
        DUE.due(32, "mean(0, -1)", x.mean(0, -1), BAD);
        SeatCast y = Due.told(SPOILER);
        meanOf(y, 0, 1, 1);
        meanOf(y, 5, 1, 1);
        // 0 is there: 0.7 of 1; else 1 alone: 0.3 of 0.7 of 0.3 of 1; 1 and 2: 0.3 of 0.49 of 3
        meanOf(y, 3, 301, 250);
        y.sit(1, NONE);
        // who is away stays away: 0 and 2, one line by 0
        meanOf(y, 3, 7, 10);
        meanOf(new SeatCast(), 5, 0, 1);
        SeatCast z = Due.told("part 0 0;away 0 0;one 0 0 0;line 0;");
        meanOf(z, 4, 3, 5);
    }

    private static void luck() {
        SeatCast x = Due.told(PAIR);
        luckOf(x, 0, 0, 1, 1);
        luckOf(x, 0, 1, 1, 1);
        luckOf(x, 1, 0, 9, 10);
        luckOf(x, 1, 1, 81, 100);
        luckOf(x, 5, 1, 1, 4);
        luckOf(x, 10, 0, 0, 1);
        DUE.due(33, "luck(-1, 0, 0)", x.luck(-1, 0, 0), BAD);
        DUE.due(33, "luck(11, 0, 0)", x.luck(11, 0, 0), BAD);
        DUE.due(33, "luck(0, 2, 0)", x.luck(0, 2, 0), BAD);
        DUE.due(33, "luck(0, -1, 0)", x.luck(0, -1, 0), BAD);
        DUE.due(33, "luck(0, 0, 2)", x.luck(0, 0, 2), BAD);
        DUE.due(33, "luck(0, 0, -1)", x.luck(0, 0, -1), BAD);
        SeatCast y = Due.told(SPOILER);
        luckOf(y, 3, 0, 91, 100);
        luckOf(y, 3, 1, 147, 1000);
        luckOf(y, 0, 1, 0, 1);
    }

    private static void shareOf(SeatCast x, int p, long top, long bottom) {
        DUE.due(31, "share(" + p + ", 0)", x.share(p, 0), top);
        DUE.due(31, "share(" + p + ", 1)", x.share(p, 1), bottom);
    }

    private static void meanOf(SeatCast x, int v, long top, long bottom) {
        DUE.due(32, "mean(" + v + ", 0)", x.mean(v, 0), top);
        DUE.due(32, "mean(" + v + ", 1)", x.mean(v, 1), bottom);
    }

    private static void luckOf(SeatCast x, int v, int i, long top, long bottom) {
        DUE.due(33, "luck(" + v + ", " + i + ", 0)", x.luck(v, i, 0), top);
        DUE.due(33, "luck(" + v + ", " + i + ", 1)", x.luck(v, i, 1), bottom);
    }
}
