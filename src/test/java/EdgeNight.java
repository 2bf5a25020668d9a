/** Terms 2: far and a night; promises 18 to 22. */
final class EdgeNight {
    private EdgeNight() {
    }

    static void check(Edges e) {
        farOfTwo(e);
        strictAndSoft(e);
        whoHaveCome(e);
        whoSitInSeatsOfItsPart(e);
        allCan(e);
        noFarther(e);
        noFeud(e);
        leastSeat(e);
        far(e);
        heard(e);
        speaks(e);
        night(e);
        says(e);
    }

    private static void farOfTwo(Edges e) {
        e.sentence(0, "FAR of two SEATS: by how many rows they differ and by how many places, "
                + "summed.");
        for (int r = 1; r <= 3; r++) {
            for (int c = 2; c <= 4; c++) {
                SeatCast x = e.told("house " + r + " " + c + ";");
                for (int s = 0; s < r * c; s++) {
                    for (int t = 0; t < r * c; t++) {
                        int rows = Math.abs(s / c - t / c);
                        int places = Math.abs(s % c - t % c);
                        e.calls(x, "far(" + s + ", " + t + ") = " + (rows + places));
                    }
                }
            }
        }
    }

    private static void strictAndSoft(Edges e) {
        e.sentence(0, "A NIGHT: LINE by LINE. If LAW is strict and a LINE of this SCENE was MISSED, "
                + "this one is.");
        SeatCast x = e.told("house 1 2;part0 0;one0 0 0;"
                + "line0;line1;line0;line0;scene0;line0;scene1;line0;");
        e.calls(x, "night(1) = 49", "law(1) = 0", "night(1) = " + 0b10111101, "law(0) = 1",
                "opens(7, true) = 0", "night(1) = " + 0b10110001, "opens(2, true) = 0",
                "night(1) = " + 0b10111101, "opens(4, false) = 1", "night(1) = " + 0b10111101,
                "opens(2, false) = 1", "night(1) = " + 0b10000001);
        // the first LINE of all is missed, and the one that opens the next SCENE is not
        SeatCast y = e.told("house 1 2;part0 0;one0 0 0;line1;line0;scene0;");
        e.calls(y, "night(1) = 4", "law(1) = 0", "night(1) = 6");
    }

    private static void whoHaveCome(Edges e) {
        e.sentence(0, "Else of PEOPLE who have come (COMES is no more than its number)");
        SeatCast x = e.told("house 1 2;soft;part0 0;one0 0 0;line0;line0;line0;line0;line0;line0;"
                + "line0;line0;");
        for (int i = 0; i <= 9; i++) {
            e.ask(x, "comes(0, " + i + ")");
            for (int j = 0; j < 8; j++) {
                e.calls(x, "speaks(" + j + ") = " + (i <= j ? "0" : "NONE"));
            }
        }
        // one who has not come yet leaves it to another in a greater seat
        SeatCast y = e.told("house 1 2;part0 0;part1 0;one0 0 1;one1 5 0;line0;line0;");
        e.calls(y, "speaks(0) = 1", "speaks(1) = 0");
    }

    private static void whoSitInSeatsOfItsPart(Edges e) {
        e.sentence(0, "and sit in SEATS of its PART");
        for (int k = 0; k <= 5; k++) {
            SeatCast x = e.told("house 1 2;part0 " + k + ";one0 0 0;line" + k + ";");
            e.calls(x, "speaks(0) = 0", "part(0, " + (k + 1) % 6 + ") = " + k, "speaks(0) = NONE",
                    "part(0, NONE) = " + (k + 1) % 6, "speaks(0) = NONE",
                    "part(0, " + k + ") = NONE", "sit(0, 1) = 0", "speaks(0) = NONE",
                    "part(1, " + k + ") = NONE", "speaks(0) = 0", "sit(0, NONE) = 1",
                    "speaks(0) = NONE");
        }
    }

    private static void allCan(Edges e) {
        // 1 does not hear 0, and feuds with him
        String people = "house 1 4;part0 0;part3 1;one0 0 0;one3 0 0 0;";
        e.sentence(0, "those who CAN: all, if it OPENS a SCENE");
        SeatCast x = e.told(people + "line0;scene1;line0;scene0;line1;");
        e.calls(x, "speaks(0) = 0", "speaks(1) = 1", "speaks(2) = NONE", "speaks(3) = 0",
                "speaks(4) = NONE", "opens(4, true) = 0", "speaks(4) = 1",
                "opens(1, false) = 1", "speaks(1) = NONE");
        e.sentence(0, "or the LINE ahead of it was MISSED");
        SeatCast y = e.told(people + "soft;line0;line1;line1;line2;line0;line1;line1;");
        e.calls(y, "speaks(0) = 0", "speaks(1) = NONE", "speaks(2) = 1", "speaks(3) = NONE",
                "speaks(4) = 0", "speaks(5) = NONE", "speaks(6) = 1");
    }

    private static void noFarther(Edges e) {
        e.sentence(0, "else those whose SEAT is no FARTHER from that of him who SPOKE the LINE ahead "
                + "than his VOICE carries");
        for (int t = 1; t < 12; t++) {
            SeatCast x = e.told("house 3 4;part0 0;part" + t + " 1;one0 0 0;one" + t
                    + " 0 0;line0;line1;");
            int far = t / 4 + t % 4;
            for (int v = 0; v <= 5; v++) {
                e.ask(x, "voice(0, " + v + ")");
                e.calls(x, "speaks(1) = " + (far <= v ? "1" : "NONE"));
            }
            // his own VOICE does not matter
            e.calls(x, "voice(1, 5) = 0", "voice(0, 0) = 5", "speaks(1) = NONE");
        }
        // the SEAT of the LINE ahead alone counts: 0 hears 1, who heard 0
        SeatCast y = e.told("house 1 4;part0 0;part1 1;part3 2;one0 1 0;one1 2 0;one3 0 0;"
                + "line0;line1;line2;");
        e.calls(y, "night(1) = 7", "voice(1, 1) = 2", "night(1) = 3");
        // he hears himself, with VOICE 0 too
        e.calls(e.told("house 1 2;part0 0;one0 0 0;line0;line0;"), "night(1) = 3");
    }

    private static void noFeud(Edges e) {
        e.sentence(0, "and who do not FEUD with him.");
        SeatCast x = e.told("house 1 2;part0 0;part1 1;one0 5 0;one1 5 0 0;line0;line1;");
        e.calls(x, "speaks(1) = NONE", "feud(1, 0, false) = 1", "speaks(1) = 1",
                "feud(0, 1, true) = 0", "speaks(1) = 1", "feud(1, 1, true) = 0", "speaks(1) = 1",
                "feud(1, 0, true) = 0", "speaks(1) = NONE");
        // a FEUD with himself, who spoke the LINE ahead
        SeatCast y = e.told("house 1 2;part0 0;one0 5 0 0;line0;line0;scene0;");
        e.calls(y, "night(1) = 5", "law(1) = 0", "night(1) = 5", "feud(0, 0, false) = 1",
                "night(1) = 7");
        // a FEUD with him who spoke the LINE but one ahead does not matter
        SeatCast z = e.told("house 1 3;part0 0;part1 1;part2 2;one0 5 0;one1 5 0;one2 5 0 0;"
                + "line0;line1;line2;");
        e.calls(z, "night(1) = 7", "feud(2, 1, true) = 0", "night(1) = 3");
    }

    private static void leastSeat(Edges e) {
        e.sentence(0, "Of them he in the least SEAT SPEAKS it");
        SeatCast x = e.told("house 1 4;part0 0;part1 0;part2 0;part3 0;one3 5 0;one2 5 0;one1 5 0;"
                + "one0 5 0;line0;");
        e.calls(x, "speaks(0) = 3", "sit(3, NONE) = 0", "speaks(0) = 2", "sit(2, NONE) = 1",
                "speaks(0) = 1", "sit(1, NONE) = 2", "speaks(0) = 0", "sit(3, 0) = NONE",
                "speaks(0) = 3", "swap(0, 3) = 0", "speaks(0) = 0");
        // of those who CAN alone: 3 in the least SEAT is too far, 2 feuds
        SeatCast y = e.told("house 1 4;part0 1;part1 1;part2 1;part3 0;one3 2 0;one2 0 0;one1 0 0 0;"
                + "one0 0 0;line0;line1;");
        e.calls(y, "speaks(1) = 1", "voice(0, 3) = 2", "speaks(1) = 3", "sit(3, NONE) = 0",
                "speaks(1) = 1", "feud(2, 0, false) = 1", "speaks(1) = 2");
        e.sentence(0, "there is none: it is MISSED.");
        e.calls(x, "sit(0, NONE) = 0", "sit(3, NONE) = 3", "speaks(0) = NONE", "night(2) = 0",
                "night(1) = 0");
        e.calls(e.told("line0;"), "speaks(0) = NONE");
        e.sentence(0, "SPOKEN are LINES that somebody SPEAKS.");
        e.calls(y, "night(0) = 2", "night(1) = 3", "part(3, NONE) = 0", "night(0) = 0",
                "night(1) = 0", "law(1) = 0", "night(0) = 1", "night(1) = 2");
    }

    private static void far(Edges e) {
        e.sentence(18, "FAR of two SEATS.");
        e.calls(e.told("house 3 4;"), "far(0, 11) = 5", "far(11, 0) = 5", "far(3, 8) = 5",
                "far(0, 0) = 0", "far(11, 11) = 0", "far(3, 4) = 4", "far(4, 0) = 1");
        e.sentence(18, "BAD.");
        SeatCast x = new SeatCast();
        for (String s : new String[] {"6", "-1", "NONE", "MIN", "MAX"}) {
            e.calls(x, "far(" + s + ", 0) = BAD", "far(0, " + s + ") = BAD",
                    "far(" + s + ", " + s + ") = BAD");
        }
        e.calls(x, "far(5, 0) = 3");
    }

    private static void heard(Edges e) {
        e.sentence(19, "SEATS in which one hears a ONE (bits).");
        SeatCast x = e.told("house 3 4;one5 0 9;one0 5 0 0 1;");
        // it does not matter who sits there, who has come and who feuds
        e.calls(x, "heard(0) = 32", "voice(0, 1) = 0", "heard(0) = " + 0b001001110010,
                "voice(0, 2) = 1", "heard(0) = " + 0b011111110111, "voice(0, 3) = 2",
                "heard(0) = 4095", "heard(1) = 4095", "voice(1, 4) = 5",
                "heard(1) = " + 0b011111111111, "voice(1, 0) = 4", "heard(1) = 1");
        e.calls(e.told("house 1 2;one1 5 0;"), "heard(0) = 3", "voice(0, 0) = 5", "heard(0) = 2");
        e.sentence(19, "BAD; STATE: he is away.");
        e.calls(x, "sit(0, NONE) = 5", "heard(0) = STATE", "heard(2) = BAD", "heard(-1) = BAD",
                "heard(NONE) = BAD", "heard(MIN) = BAD", "heard(MAX) = BAD", "sit(0, 5) = NONE",
                "heard(0) = 4095");
        e.calls(new SeatCast(), "heard(0) = BAD");
    }

    private static void speaks(Edges e) {
        e.sentence(20, "Who SPEAKS a LINE.");
        SeatCast x = e.told("house 1 2;part0 0;part1 1;one1 5 0;one0 5 0;line0;line1;line2;");
        e.calls(x, "speaks(0) = 1", "speaks(1) = 0");
        e.sentence(20, "BAD; NONE: it is MISSED.");
        e.calls(x, "speaks(2) = NONE", "speaks(3) = BAD", "speaks(-1) = BAD", "speaks(NONE) = BAD",
                "speaks(8) = BAD", "speaks(MIN) = BAD", "speaks(MAX) = BAD");
        e.calls(new SeatCast(), "speaks(0) = BAD");
    }

    private static void night(Edges e) {
        String eight = "line0;line0;line0;line0;line0;line0;line0;line0;";
        e.sentence(21, "LINES SPOKEN: how many (what 0), which (1; bits)");
        SeatCast all = e.told("house 1 2;part0 0;one0 0 0;" + eight);
        e.calls(all, "night(0) = 8", "night(1) = 255", "comes(0, 9) = 0", "night(0) = 0",
                "night(1) = 0", "law(1) = 0", "comes(0, 7) = 9", "night(0) = 1",
                "night(1) = 128");
        e.sentence(21, "the first one that is MISSED (2)");
        e.calls(all, "night(2) = 0", "comes(0, 0) = 7", "part(1, 0) = NONE");
        SeatCast y = e.told("house 1 2;part0 0;one0 0 0;line0;line1;scene1;line0;");
        e.calls(y, "night(2) = 1", "opens(2, false) = 1", "night(2) = 1", "law(1) = 0",
                "night(2) = 1", "part(0, 1) = 0", "night(2) = 0");
        SeatCast last = e.told("house 1 2;part0 0;one0 0 0;" + eight.substring(6) + "line1;");
        e.calls(last, "night(2) = 7");
        e.sentence(21, "how many SCENES are whole (3).");
        e.calls(all, "night(3) = 1", "opens(7, true) = 0", "night(3) = 2", "comes(0, 1) = 0",
                "night(3) = 1", "comes(0, 7) = 1", "night(3) = 1", "comes(0, 8) = 7",
                "night(3) = 0", "comes(0, 0) = 8");
        for (int i = 1; i < 8; i++) {
            e.ask(all, "opens(" + i + ", true)");
            e.calls(all, "night(3) = " + (i == 7 ? 8 : i + 2));
        }
        e.calls(y, "part(0, 0) = 1", "opens(2, true) = 0", "night(3) = 0",
                "opens(3, true) = 0", "night(3) = 1");
        e.calls(new SeatCast(), "night(3) = 0");
        e.sentence(21, "BAD; NONE (what 2): none is.");
        e.calls(all, "night(2) = NONE", "night(-1) = BAD", "night(4) = BAD", "night(MIN) = BAD",
                "night(MAX) = BAD");
        e.calls(new SeatCast(), "night(2) = NONE", "night(4) = BAD", "night(-1) = BAD");
    }

    private static void says(Edges e) {
        e.sentence(22, "How many LINES a ONE SPEAKS.");
        SeatCast x = e.told("house 1 4;part0 0;part1 1;one0 5 0;one1 5 0;away5 0;one3 0 0;"
                + "line0;line1;line0;line0;line1;line0;line0;line0;");
        e.calls(x, "says(0) = 6", "says(1) = 2", "says(2) = 0", "says(3) = 0", "part(1, 0) = 1",
                "says(0) = 1", "says(1) = 0", "law(1) = 0", "says(0) = 6", "part(0, 1) = 0",
                "says(0) = 2", "says(1) = 6");
        SeatCast y = e.told("house 1 2;part0 0;one0 0 0;line0;line0;line0;line0;line0;line0;line0;"
                + "line0;");
        e.calls(y, "says(0) = 8", "sit(0, NONE) = 0", "says(0) = 0");
        e.sentence(22, "BAD.");
        e.calls(x, "says(4) = BAD", "says(-1) = BAD", "says(NONE) = BAD", "says(MIN) = BAD",
                "says(MAX) = BAD");
        e.calls(new SeatCast(), "says(0) = BAD");
    }
}
