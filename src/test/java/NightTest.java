/** Promises 18 to 22: a night. */
final class NightTest {
    private static final Due DUE = new Due("NightTest");
    private static final int NONE = SeatCast.NONE;

    private static final String PLAY = "house 2 3;part 0 0;part 2 1;part 3 2;part 5 1;one 0 1 0 1;"
            + "one 2 3 0;one 3 2 1 0;line 0;line 1;line 2;scene 1;line 0;line 2;";

    public static void main(String[] args) {
        far();
        heard();
        speaksByTheLaw();
        speaksWhoHasCome();
        speaksWhoHeardHisCue();
        speaksWhoHasNoFeud();
        speaksAtAnOpening();
        night();
        says();
        DUE.close();
    }

    private static void far() {
        SeatCast x = Due.told("house 3 4;");
        int[][] far = {{0, 11, 5}, {11, 0, 5}, {0, 3, 3}, {4, 8, 1}, {0, 5, 2}, {5, 5, 0},
            {3, 8, 5}, {3, 4, 4}, {7, 2, 2}};
        for (int[] f : far) {
            DUE.due(18, "far(" + f[0] + ", " + f[1] + ") of 3 by 4", x.far(f[0], f[1]), f[2]);
        }
        DUE.due(18, "far(12, 0)", x.far(12, 0), SeatCast.BAD);
        DUE.due(18, "far(0, 12)", x.far(0, 12), SeatCast.BAD);
        DUE.due(18, "far(-1, 0)", x.far(-1, 0), SeatCast.BAD);
        DUE.due(18, "far(0, -1)", x.far(0, -1), SeatCast.BAD);
        SeatCast y = Due.told("house 3 2;");
        DUE.due(18, "far(0, 5) of 3 by 2", y.far(0, 5), 3);
        DUE.due(18, "far(1, 2) of 3 by 2", y.far(1, 2), 2);
        DUE.due(18, "far(0, 6) of 3 by 2", y.far(0, 6), SeatCast.BAD);
        SeatCast z = Due.told("house 1 4;");
        DUE.due(18, "far(0, 3) of 1 by 4", z.far(0, 3), 3);
        DUE.due(18, "far(0, 4) of 1 by 4", z.far(0, 4), SeatCast.BAD);
    }

    private static void heard() {
        SeatCast x = Due.told(PLAY);
        DUE.due(19, "heard(0)", x.heard(0), 11);
        DUE.due(19, "heard(1)", x.heard(1), 63);
        DUE.due(19, "heard(2)", x.heard(2), 59);
        x.voice(0, 0);
        DUE.due(19, "heard(0), voice 0", x.heard(0), 1);
        x.voice(0, 5);
        DUE.due(19, "heard(0), voice 5", x.heard(0), 63);
        x.sit(0, NONE);
        DUE.due(19, "heard(0), away", x.heard(0), SeatCast.STATE);
        DUE.due(19, "heard(3)", x.heard(3), SeatCast.BAD);
        DUE.due(19, "heard(-1)", x.heard(-1), SeatCast.BAD);
        SeatCast y = Due.told("house 3 4;one 11 5 0;");
        DUE.due(19, "heard(0) of 3 by 4", y.heard(0), 4095);
        y.voice(0, 2);
        DUE.due(19, "heard(0) of 3 by 4", y.heard(0), 1 << 11 | 1 << 10 | 1 << 9 | 1 << 7 | 1 << 6
                | 1 << 3);
    }

    private static void speaksByTheLaw() {
        SeatCast x = Due.told(PLAY);
        speakers(x, "strict", 0, NONE, NONE, 1, NONE, NONE);
        x.law(1);
        speakers(x, "soft", 0, NONE, 2, 1, NONE, 2);
        DUE.due(20, "speaks(6)", x.speaks(6), SeatCast.BAD);
        DUE.due(20, "speaks(-1)", x.speaks(-1), SeatCast.BAD);
        DUE.due(20, "speaks(0) of a new object", new SeatCast().speaks(0), SeatCast.BAD);
    }

    private static void speaksWhoHasCome() {
        SeatCast x = Due.told("part 0 0;part 1 0;one 1 5 0;one 0 5 0;away 5 0;line 0;line 0;line 0;");
        speakers(x, "he in the least seat", 1, 1, 1);
        x.comes(1, 1);
        speakers(x, "he comes with line 1", 0, 1, 1);
        x.comes(1, 3);
        speakers(x, "he comes behind all", 0, 0, 0);
        x.comes(0, 9);
        speakers(x, "nobody comes", NONE, NONE, NONE);
        x.comes(1, 0);
        x.part(0, 1);
        speakers(x, "no part of the lines", NONE, NONE, NONE);
        x.part(0, NONE);
        speakers(x, "no part", NONE, NONE, NONE);
        x.part(0, 0);
        x.sit(1, NONE);
        x.comes(0, 2);
        x.law(1);
        speakers(x, "away", NONE, NONE, 0);
    }

    private static void speaksWhoHeardHisCue() {
        // in one row: 0 speaks first, 1 sits two places off
        SeatCast x = Due.told("house 1 4;part 0 0;part 2 1;one 0 2 0;one 2 0 0;line 0;line 1;line 1;");
        speakers(x, "as far as his voice carries", 0, 1, 1);
        x.voice(0, 1);
        speakers(x, "farther", 0, NONE, NONE);
        x.voice(1, 5);
        speakers(x, "his own voice does not matter", 0, NONE, NONE);
        x.law(1);
        speakers(x, "behind a silence all can", 0, NONE, 1);
        x.law(0);
        x.opens(1, true);
        speakers(x, "who opens needs no cue", 0, 1, 1);
        // of two of the part the one who heard, though his seat is not the least
        SeatCast y = Due.told("house 1 4;part 3 0;part 0 1;part 2 1;one 3 1 0;one 0 0 0;one 2 0 0;"
                + "line 0;line 1;scene 1;");
        speakers(y, "who heard speaks, then the least seat", 0, 2, 1);
    }

    private static void speaksWhoHasNoFeud() {
        SeatCast x = Due.told("part 0 0;part 1 1;one 0 5 0;one 1 5 0 0;line 0;line 1;line 1;");
        speakers(x, "he feuds with him who gave the cue", 0, NONE, NONE);
        x.law(1);
        speakers(x, "behind a silence feuds do not matter", 0, NONE, 1);
        x.law(0);
        x.feud(1, 0, false);
        x.feud(0, 1, true);
        speakers(x, "the feud of him who gave the cue does not matter", 0, 1, 1);
        x.feud(1, 1, true);
        speakers(x, "with himself", 0, 1, NONE);
        x.opens(2, true);
        speakers(x, "with himself, but a scene opens", 0, 1, 1);
    }

    private static void speaksAtAnOpening() {
        SeatCast x = Due.told("part 0 0;part 5 1;one 0 0 0;one 5 0 0 0;"
                + "line 0;line 1;line 0;scene 1;line 1;line 0;");
        speakers(x, "strict, a scene begins anew", 0, NONE, NONE, 1, 1, NONE);
        x.opens(1, true);
        speakers(x, "three scenes", 0, 1, NONE, 1, 1, NONE);
        x.opens(2, true);
        speakers(x, "four scenes", 0, 1, 0, 1, 1, NONE);
    }

    private static void night() {
        SeatCast x = Due.told(PLAY);
        nightOf(x, "strict", 2, 9, 1, 0);
        x.law(1);
        nightOf(x, "soft", 4, 45, 1, 0);
        x.feud(0, 1, false);
        nightOf(x, "soft, without his feud", 4, 29, 1, 0);
        x.feud(2, 0, false);
        nightOf(x, "soft, without feuds", 5, 61, 1, 1);
        x.voice(0, 3);
        nightOf(x, "louder", 6, 63, NONE, 2);
        x.comes(0, 1);
        nightOf(x, "late", 5, 62, 0, 1);
        DUE.due(21, "night(-1)", x.night(-1), SeatCast.BAD);
        DUE.due(21, "night(4)", x.night(4), SeatCast.BAD);
        nightOf(new SeatCast(), "no lines", 0, 0, NONE, 0);
        SeatCast all = Due.told("part 0 0;one 0 0 0;line 0;line 0;line 0;line 0;"
                + "line 0;line 0;line 0;line 0;");
        nightOf(all, "eight lines", 8, 255, NONE, 1);
        SeatCast y = Due.told("part 0 0;one 0 0 1;line 0;scene 0;scene 1;scene 0;line 0;");
        nightOf(y, "four scenes", 3, 26, 0, 2);
        y.opens(4, true);
        nightOf(y, "five scenes", 3, 26, 0, 3);
    }

    private static void says() {
        SeatCast x = Due.told(PLAY);
        DUE.due(22, "says(0)", x.says(0), 1);
        DUE.due(22, "says(1)", x.says(1), 1);
        DUE.due(22, "says(2)", x.says(2), 0);
        DUE.due(22, "says(3)", x.says(3), SeatCast.BAD);
        DUE.due(22, "says(-1)", x.says(-1), SeatCast.BAD);
        DUE.due(22, "says(NONE)", x.says(NONE), SeatCast.BAD);
        x.law(1);
        DUE.due(22, "says(2), soft", x.says(2), 2);
        x.sit(2, NONE);
        DUE.due(22, "says(2), away", x.says(2), 0);
    }

    private static void speakers(SeatCast x, String when, int... want) {
        for (int i = 0; i < want.length; i++) {
            DUE.due(20, "speaks(" + i + "), " + when, x.speaks(i), want[i]);
        }
    }

    private static void nightOf(SeatCast x, String when, int... want) {
        for (int what = 0; what < want.length; what++) {
            DUE.due(21, "night(" + what + "), " + when, x.night(what), want[what]);
        }
    }
}
