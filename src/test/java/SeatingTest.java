/** Promises 23 to 28: who should sit where. */
final class SeatingTest {
    private static final Due DUE = new Due("SeatingTest");
    private static final int NONE = SeatCast.NONE;
    private static final int BAD = SeatCast.BAD;

    private static final String PLAY = "house 2 3;part 0 0;part 2 1;part 3 2;part 5 1;one 0 1 0 1;"
            + "one 2 3 0;one 3 2 1 0;line 0;line 1;line 2;scene 1;line 0;line 2;";

    /** Where a quiet cue helps: 1 answers 0 and spoils it for 2, who feuds with him. */
    private static final String QUIET = "soft;part 0 0;part 1 1;part 2 2;part 3 1;house 1 4;"
            + "one 0 5 0;one 1 5 0 2;one 2 5 0 1;one 3 5 0;line 0;line 1;line 2;line 1;line 2;";

    public static void main(String[] args) {
        best();
        bestOfSeveral();
        bestIsTheLastOfAll();
        change();
        changeWithOneWhoIsAway();
        role();
        cut();
        cutKeepsNumbers();
        cutLeavesOpenings();
        louder();
        peace();
        DUE.close();
    }

    private static void best() {
        SeatCast x = Due.told(PLAY);
        DUE.due(23, "best(0)", x.best(0), 4);
        DUE.due(23, "best(10)", x.best(10), 0);
        DUE.due(23, "best(11)", x.best(11), 3);
        DUE.due(23, "best(12)", x.best(12), 2);
        DUE.due(23, "night(0), nothing is changed", x.night(0), 2);
        DUE.due(23, "one(1, 0), nothing is changed", x.one(1, 0), 2);
        for (int what : new int[] {-1, 1, 9, 13, -10, Integer.MIN_VALUE, Integer.MAX_VALUE}) {
            DUE.due(23, "best(" + what + ")", x.best(what), BAD);
        }
        SeatCast y = Due.told("line 0;line 0;");
        DUE.due(23, "best(0), nobody", y.best(0), 0);
        DUE.due(23, "best(10), nobody", y.best(10), BAD);
        DUE.due(23, "best(0), no lines", new SeatCast().best(0), 0);
        SeatCast z = Due.told("part 4 0;away 5 0;one 1 0 0;line 0;");
        DUE.due(23, "best(0), one away", z.best(0), 1);
        DUE.due(23, "best(10), away", z.best(10), NONE);
        DUE.due(23, "best(11)", z.best(11), 4);
    }

    private static void bestOfSeveral() {
        SeatCast x = Due.told("house 1 3;part 2 0;one 0 0 0;one 1 0 0;line 0;");
        DUE.due(23, "best(0)", x.best(0), 1);
        DUE.due(23, "best(10), the first seating", x.best(10), 0);
        DUE.due(23, "best(11), the first seating", x.best(11), 2);
        SeatCast y = Due.told("house 1 2;one 1 0 0;line 0;");
        DUE.due(23, "best(0)", y.best(0), 0);
        DUE.due(23, "best(10), all alike", y.best(10), 0);
        SeatCast z = Due.told("house 1 2;one 1 0 0;one 0 0 0;");
        DUE.due(23, "best(10), a full house", z.best(10), 0);
        DUE.due(23, "best(11), a full house", z.best(11), 1);
        // the last of the seatings of a full house of four alone
        SeatCast w = Due.told("house 2 2;part 0 3;part 1 2;part 2 1;part 3 0;one 0 5 0;one 1 5 1 1;"
                + "one 2 5 2 2;one 3 5 3 3;line 0;line 1;line 2;line 3;");
        DUE.due(23, "best(0), four", w.best(0), 4);
        DUE.due(24, "change(0), four", w.change(0), 3);
        DUE.due(24, "change(1), four", w.change(1), 1);
        for (int p = 0; p < 4; p++) {
            DUE.due(23, "best(" + (10 + p) + "), four", w.best(10 + p), 3 - p);
        }
    }

    /** Each comes with the line of his number, and all twelve seats have a part of the lines. */
    private static void bestIsTheLastOfAll() {
        SeatCast x = Due.told("house 3 4;one 0 5 0;one 1 5 1;one 2 5 2;one 3 5 3;"
                + "line 0;line 1;line 2;line 3;line 4;");
        for (int s = 0; s < 12; s++) {
            x.part(s, s < 8 ? 4 : 11 - s);
        }
        DUE.due(23, "best(0), the last of 11880", x.best(0), 4);
        for (int p = 0; p < 4; p++) {
            DUE.due(23, "best(" + (10 + p) + "), the last of 11880", x.best(10 + p), 11 - p);
        }
    }

    private static void change() {
        SeatCast x = Due.told(PLAY);
        DUE.due(24, "change(0)", x.change(0), 12);
        DUE.due(24, "change(1)", x.change(1), 4);
        DUE.due(24, "one(1, 0), nothing is changed", x.one(1, 0), 2);
        DUE.due(24, "change(2)", x.change(2), BAD);
        DUE.due(24, "change(-1)", x.change(-1), BAD);
        x.swap(1, 2);
        DUE.due(24, "change(0), as good as now is not more", x.change(0), NONE);
        DUE.due(24, "change(1), none", x.change(1), NONE);
        SeatCast y = Due.told("part 0 0;one 1 0 0;line 0;");
        DUE.due(24, "change(0), one alone", y.change(0), NONE);
        SeatCast z = new SeatCast();
        DUE.due(24, "change(0), nobody", z.change(0), NONE);
        DUE.due(24, "change(2), nobody", z.change(2), BAD);
    }

    private static void changeWithOneWhoIsAway() {
        SeatCast x = Due.told("house 1 3;part 0 0;part 1 1;one 0 5 1;one 1 5 0;away 5 0;"
                + "line 0;line 1;");
        DUE.due(24, "change(0), of 1 and 2 the least", x.change(0), 1);
        DUE.due(24, "change(1)", x.change(1), 2);
        x.comes(1, 1);
        DUE.due(24, "change(0), with one who is away", x.change(0), 2);
        DUE.due(24, "change(1), with one who is away", x.change(1), 2);
    }

    private static void role() {
        SeatCast x = Due.told(PLAY);
        DUE.due(25, "role(1, 0), nobody there", x.role(1, 0), 0);
        DUE.due(25, "role(1, 1), nobody there", x.role(1, 1), 2);
        DUE.due(25, "role(2, 0)", x.role(2, 0), 1);
        DUE.due(25, "role(2, 1)", x.role(2, 1), 2);
        DUE.due(25, "seat(2, 0), nothing is changed", x.seat(2, 0), 1);
        SeatCast y = Due.told("one 0 0 0;line 5;scene 3;");
        DUE.due(25, "role(0, 0), of 3 and 5 the least", y.role(0, 0), 3);
        DUE.due(25, "role(0, 1)", y.role(0, 1), 1);
        DUE.due(25, "seat(0, 0), nothing is changed", y.seat(0, 0), NONE);
        y.opens(1, false);
        DUE.due(25, "role(0, 0), the last part", y.role(0, 0), 5);
        DUE.due(25, "role(6, 0)", y.role(6, 0), BAD);
        DUE.due(25, "role(-1, 0)", y.role(-1, 0), BAD);
        DUE.due(25, "role(0, 2)", y.role(0, 2), BAD);
        DUE.due(25, "role(0, -1)", y.role(0, -1), BAD);
        DUE.due(25, "role(0, 0), no lines", new SeatCast().role(0, 0), 0);
        DUE.due(25, "role(0, 1), no lines", new SeatCast().role(0, 1), 0);
    }

    private static void cut() {
        SeatCast x = Due.told(PLAY);
        DUE.due(26, "cut(0)", x.cut(0), 2);
        DUE.due(26, "cut(1)", x.cut(1), 17);
        x.law(1);
        DUE.due(26, "cut(0), soft", x.cut(0), 2);
        DUE.due(26, "cut(1), soft", x.cut(1), 17);
        DUE.due(26, "rule(3), nothing is changed", x.rule(3), 6);
        DUE.due(26, "cut(2)", x.cut(2), BAD);
        DUE.due(26, "cut(-1)", x.cut(-1), BAD);
        DUE.due(26, "cut(0), no lines", new SeatCast().cut(0), 0);
        DUE.due(26, "cut(1), no lines", new SeatCast().cut(1), 0);
        SeatCast y = Due.told("line 0;line 1;scene 2;");
        DUE.due(26, "cut(0), nobody", y.cut(0), 3);
        DUE.due(26, "cut(1), nobody", y.cut(1), 7);
        SeatCast z = Due.told("part 0 0;part 1 1;one 0 0 0;one 1 0 0;line 0;line 1;");
        DUE.due(26, "cut(0), one of two", z.cut(0), 1);
        DUE.due(26, "cut(1), the least set", z.cut(1), 1);
        z.voice(0, 1);
        DUE.due(26, "cut(0), none", z.cut(0), 0);
        DUE.due(26, "cut(1), none", z.cut(1), 0);
    }

    private static void cutKeepsNumbers() {
        SeatCast x = Due.told("part 0 0;one 0 5 1;line 1;line 0;");
        DUE.due(26, "cut(0), line 1 stays line 1", x.cut(0), 1);
        DUE.due(26, "cut(1), line 1 stays line 1", x.cut(1), 1);
        x.comes(0, 2);
        DUE.due(26, "cut(0), he comes too late", x.cut(0), 2);
        DUE.due(26, "cut(1), he comes too late", x.cut(1), 3);
    }

    private static void cutLeavesOpenings() {
        SeatCast x = Due.told("part 0 0;part 1 1;one 0 5 0;one 1 5 0 0;line 0;scene 2;line 1;");
        DUE.due(26, "cut(0), the next one of the scene opens it", x.cut(0), 1);
        DUE.due(26, "cut(1), the next one of the scene opens it", x.cut(1), 2);
        x.opens(1, false);
        // a line that is cut is no silence: 1 hears 0, with whom he feuds
        DUE.due(26, "cut(0), one scene", x.cut(0), 2);
        DUE.due(26, "cut(1), one scene", x.cut(1), 3);
        x.feud(1, 0, false);
        DUE.due(26, "cut(1), no feud", x.cut(1), 2);
    }

    private static void louder() {
        SeatCast x = Due.told(PLAY);
        DUE.due(27, "louder(0, 0)", x.louder(0, 0), 2);
        DUE.due(27, "louder(0, 1)", x.louder(0, 1), 4);
        DUE.due(27, "one(0, 1), nothing is changed", x.one(0, 1), 1);
        DUE.due(27, "louder(1, 0), none", x.louder(1, 0), NONE);
        DUE.due(27, "louder(1, 1), none", x.louder(1, 1), NONE);
        x.sit(0, NONE);
        DUE.due(27, "louder(0, 0), away", x.louder(0, 0), NONE);
        DUE.due(27, "louder(3, 0)", x.louder(3, 0), BAD);
        DUE.due(27, "louder(-1, 0)", x.louder(-1, 0), BAD);
        DUE.due(27, "louder(0, 2)", x.louder(0, 2), BAD);
        DUE.due(27, "louder(0, -1)", x.louder(0, -1), BAD);
        SeatCast y = Due.told(QUIET);
        DUE.due(27, "night(1), loud", y.night(1), 11);
        DUE.due(27, "louder(0, 0), the least voice of all", y.louder(0, 0), 0);
        DUE.due(27, "louder(0, 1), the least voice of all", y.louder(0, 1), 4);
        SeatCast z = Due.told("house 3 4;part 0 0;part 11 1;one 0 0 0;one 11 0 0;line 0;line 1;");
        DUE.due(27, "louder(0, 0), as loud as may be", z.louder(0, 0), 5);
    }

    private static void peace() {
        SeatCast x = Due.told(PLAY);
        DUE.due(28, "peace(0)", x.peace(0), 1);
        DUE.due(28, "peace(1)", x.peace(1), 3);
        DUE.due(28, "one(0, 3), nothing is changed", x.one(0, 3), 2);
        DUE.due(28, "peace(2)", x.peace(2), BAD);
        DUE.due(28, "peace(-1)", x.peace(-1), BAD);
        x.feud(0, 1, false);
        // line 5 answers 0, with whom 2 feuds
        DUE.due(28, "peace(0)", x.peace(0), 20);
        DUE.due(28, "peace(1)", x.peace(1), 4);
        x.feud(2, 0, false);
        DUE.due(28, "peace(0), no feuds", x.peace(0), NONE);
        DUE.due(28, "peace(1), no feuds", x.peace(1), NONE);
        x.feud(2, 1, true);
        DUE.due(28, "peace(0), it does not matter", x.peace(0), NONE);
        SeatCast y = Due.told("part 0 0;one 0 0 0 0;line 0;line 0;");
        DUE.due(28, "peace(0), with himself", y.peace(0), 0);
        DUE.due(28, "peace(1), with himself", y.peace(1), 2);
        DUE.due(28, "peace(0), nobody", new SeatCast().peace(0), NONE);
        SeatCast w = Due.told("away 0 0 0 1 2 3;away 0 0 0 1 2 3;away 0 0 0 1 2 3;away 0 0 0 1 2 3;"
                + "line 0;");
        DUE.due(28, "peace(0), nobody speaks", w.peace(0), NONE);
        DUE.due(28, "peace(0), nobody speaks nor feuds", Due.told("away 0 0;line 0;").peace(0), NONE);
        // two feuds, the end of either makes a line more: the least
        SeatCast z = Due.told("part 0 0;part 1 1;one 0 5 0 1;one 1 5 0 0;line 0;line 1;scene 1;line 0;");
        DUE.due(28, "peace(0), of several the least", z.peace(0), 1);
        DUE.due(28, "peace(1), of several the least", z.peace(1), 3);
    }
}
