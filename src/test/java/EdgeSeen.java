/** Terms: what is seen; promises 34 to 37: who sat where, and by a seed. */
final class EdgeSeen {
    private static final String EIGHT = "line0;line0;line0;line0;line0;line0;line0;line0;";

    private EdgeSeen() {
    }

    static void check(Edges e) {
        seen(e);
        fit(e);
        see(e);
        forget(e);
        fits(e);
        fitsSeats(e);
        drift(e);
        driftPeople(e);
        driftSits(e);
        driftRefused(e);
    }

    private static void seen(Edges e) {
        e.sentence(0, "SEEN (8): of a LINE who SPOKE it, or NONE: it was MISSED.");
        SeatCast x = e.told("house 1 2;part0 0;one1 0 0;line0;line1;");
        // by how he sits now he speaks nothing: what is seen may be otherwise
        for (int n = 1; n <= 7; n++) {
            e.calls(x, "see(0, 0) = " + n);
        }
        e.calls(x, "see(1, NONE) = 8", "fits(10) = 1", "see(1, NONE) = FULL", "count(2) = 8",
                "forget(7) = 8", "see(1, 0) = 8", "fits(0) = 0", "fits(10) = 0");
    }

    private static void fit(Edges e) {
        e.sentence(0, "SEATINGS FIT, if by them (all else as it is) all is as SEEN.");
        SeatCast x = e.told("house 1 3;part0 0;part1 1;one0 0 0;one1 0 0;line0;line1;");
        // 0 speaks line 0, and 1 does not hear it
        e.calls(x, "see(0, 0) = 1", "fits(0) = 2", "see(1, 1) = 2", "fits(0) = 0",
                "voice(0, 1) = 0", "fits(0) = 1", "feud(1, 0, true) = 0", "fits(0) = 0",
                "feud(1, 0, false) = 1", "opens(1, true) = 0", "voice(0, 0) = 1", "fits(0) = 1",
                "comes(1, 2) = 0", "fits(0) = 0", "comes(1, 1) = 2", "part(1, NONE) = 1",
                "fits(0) = 0", "part(2, 1) = NONE", "fits(0) = 1", "fits(11) = 4");
        // by the law, too: a silence ahead
        SeatCast y = e.told("house 1 2;part0 1;one0 0 0;line0;line1;");
        e.calls(y, "see(1, 0) = 1", "fits(0) = 0", "law(1) = 0", "fits(0) = 1", "fits(10) = 1");
    }

    private static void see(Edges e) {
        e.sentence(34, "SEEN: a LINE, who SPOKE it (NONE: it was MISSED): how many are.");
        SeatCast x = e.told("house 1 2;part0 0;one0 0 0;away0 0;" + EIGHT);
        e.calls(x, "see(0, 0) = 1", "see(0, 0) = 2", "see(7, NONE) = 3", "see(0, 1) = 4",
                "count(2) = 4");
        e.sentence(34, "BAD; FULL.");
        String[] bad = {"see(8, 0)", "see(-1, 0)", "see(NONE, 0)", "see(MIN, 0)", "see(MAX, 0)",
            "see(0, 2)", "see(0, -1)", "see(0, -2)", "see(0, -3)", "see(0, -5)", "see(0, MIN)",
            "see(0, MAX)", "see(8, NONE)"};
        for (String call : bad) {
            e.calls(x, call + " = BAD");
        }
        e.calls(x, "count(2) = 4", "see(0, 0) = 5", "see(0, 0) = 6", "see(0, 0) = 7",
                "see(0, 0) = 8", "see(0, 0) = FULL", "see(0, NONE) = FULL", "count(2) = 8");
        for (String call : bad) {
            e.calls(x, call + " = BAD");
        }
        e.calls(x, "forget(7) = 8", "see(0, 0) = 8", "see(0, 0) = FULL");
        e.calls(new SeatCast(), "see(0, NONE) = BAD", "see(0, 0) = BAD");
    }

    private static void forget(Edges e) {
        e.sentence(35, "SEEN are the first n alone: how many there were.");
        SeatCast x = e.told("house 1 2;part0 0;one0 0 0;line0;");
        e.calls(x, "forget(0) = 0", "see(0, 0) = 1", "see(0, NONE) = 2", "fits(0) = 0",
                "forget(2) = 2", "fits(0) = 0", "forget(1) = 2", "fits(10) = 1", "forget(1) = 1",
                "forget(0) = 1", "fits(10) = 3", "see(0, NONE) = 1", "fits(10) = 2",
                "forget(0) = 1");
        for (int n = 1; n <= 8; n++) {
            e.calls(x, "see(0, 0) = " + n);
        }
        e.calls(x, "forget(8) = 8", "forget(0) = 8", "count(2) = 0");
        e.sentence(35, "BAD (n above that, too).");
        e.calls(x, "forget(1) = BAD", "forget(-1) = BAD", "see(0, 0) = 1", "forget(2) = BAD",
                "forget(8) = BAD", "forget(-1) = BAD", "forget(NONE) = BAD", "forget(MIN) = BAD",
                "forget(MAX) = BAD", "count(2) = 1", "fits(10) = 1");
    }

    private static void fits(Edges e) {
        e.sentence(36, "SEATINGS that FIT: how many (what 0)");
        // nobody: there is one seating, by which all lines are missed
        SeatCast nobody = e.told("line0;");
        e.calls(nobody, "fits(0) = 1", "see(0, NONE) = 1", "fits(0) = 1");
        SeatCast away = e.told("part0 0;away0 0;line0;");
        e.calls(away, "fits(0) = 1", "see(0, NONE) = 1", "fits(0) = 1", "see(0, 0) = 2",
                "fits(0) = 0");
        SeatCast x = e.told("house 1 3;part1 0;one0 0 0;one2 0 0;away5 0;line0;");
        e.calls(x, "fits(0) = 6", "see(0, 0) = 1", "fits(0) = 2", "see(0, NONE) = 2",
                "fits(0) = 0", "forget(0) = 2", "see(0, NONE) = 1", "fits(0) = 2",
                "forget(0) = 1", "see(0, 2) = 1", "fits(0) = 0", "one(0, 0) = 0",
                "one(1, 0) = 2");
        SeatCast y = e.told("house 3 4;part11 0;one0 0 0;one1 0 0;one2 0 0;one3 0 0;line0;");
        e.calls(y, "fits(0) = 11880", "see(0, 3) = 1", "fits(0) = 990", "forget(0) = 1",
                "see(0, NONE) = 1", "fits(0) = 7920");
        // all seats speak: four in a row of a full house
        SeatCast full = e.told("house 2 2;part0 0;part1 1;part2 2;part3 3;one0 5 0;one1 5 0;one2 5 0;"
                + "one3 5 0;line0;line1;line2;line3;");
        e.calls(full, "fits(0) = 24", "see(3, 0) = 1", "fits(0) = 6", "see(0, 3) = 2",
                "fits(0) = 2", "see(1, 2) = 3", "fits(0) = 1", "fits(10) = 8", "fits(11) = 4",
                "fits(12) = 2", "fits(13) = 1", "see(2, 1) = 4", "fits(0) = 1",
                "see(2, 2) = 5", "fits(0) = 0");
    }

    private static void fitsSeats(Edges e) {
        e.sentence(36, "10 and p: SEATS of a ONE by them (bits; away: 0).");
        SeatCast x = e.told("house 1 3;part1 0;one0 0 0;one2 0 0;away5 0;line0;");
        e.calls(x, "fits(10) = 7", "fits(11) = 7", "fits(12) = 0", "see(0, 0) = 1",
                "fits(10) = 2", "fits(11) = 5", "fits(12) = 0", "see(0, 1) = 2", "fits(10) = 0",
                "fits(11) = 0", "fits(12) = 0");
        SeatCast y = e.told("house 3 4;part11 0;one0 0 0;one1 0 0;one2 0 0;one3 0 0;line0;");
        e.calls(y, "fits(13) = 4095", "see(0, 3) = 1", "fits(10) = 2047", "fits(13) = 2048");
        e.sentence(36, "BAD.");
        for (int n = 1; n <= 9; n++) {
            e.calls(x, "fits(" + n + ") = BAD");
        }
        e.calls(x, "fits(13) = BAD", "fits(-1) = BAD", "fits(NONE) = BAD", "fits(-10) = BAD",
                "fits(MIN) = BAD", "fits(MAX) = BAD", "fits(-2147483639) = BAD",
                "fits(-2147483638) = BAD");
        e.calls(y, "fits(14) = BAD");
        e.calls(new SeatCast(), "fits(10) = BAD");
    }

    /** By seat 0 one line is spoken, by seat 1 two, by seat 2 none. */
    private static void drift(Edges e) {
        e.sentence(37, "n times (1 to 60) by a seed: the seed becomes seed times 1103515245 and 12345; "
                + "bits 16 to 30 of it");
        SeatCast x = e.told("house 1 3;soft;part0 0;part1 1;away0 0;line0;line1;line1;");
        String[] seeds = {"0", "1", "-1", "MAX", "MIN", "12345", "65536"};
        int[][] sums = {{1, 3, 5, 7, 67}, {2, 4, 4, 5, 63}, {0, 1, 1, 1, 54}, {0, 1, 1, 1, 54},
            {1, 3, 5, 7, 67}, {2, 3, 5, 5, 63}, {0, 0, 0, 2, 55}};
        int[][] lasts = {{1, 2, 2, 2, 2}, {2, 2, 0, 1, 1}, {0, 1, 0, 0, 2}, {0, 1, 0, 0, 2},
            {1, 2, 2, 2, 2}, {2, 1, 2, 0, 0}, {0, 0, 0, 2, 1}};
        int[] times = {1, 2, 3, 4, 60};
        for (int s = 0; s < seeds.length; s++) {
            for (int t = 0; t < times.length; t++) {
                String call = "drift(" + seeds[s] + ", " + times[t];
                e.calls(x, call + ", 0) = " + sums[s][t], call + ", 1) = " + lasts[s][t]);
            }
        }
        e.sentence(37, "By itself (as it would be; nothing is changed)");
        e.calls(x, "one(0, 0) = NONE", "night(0) = 0", "drift(1, 1, 0) = 2", "drift(1, 1, 0) = 2",
                "one(0, 0) = NONE", "sit(0, 2) = NONE", "drift(0, 60, 0) = 67", "one(0, 0) = 2",
                "count(2) = 0", "count(3) = 0");
    }

    private static void driftPeople(Edges e) {
        e.sentence(37, "modulo PEOPLE, then, the seed changed likewise once more, modulo SEATS");
        // by one who comes: 0 eight lines, 1 six, 2 three, 3 one
        SeatCast x = e.told("house 1 2;soft;part0 0;part1 0;away0 0;away0 2;away0 5;away0 7;" + EIGHT);
        int[] first = {8, 3, 8, 1, 6, 1, 3, 8, 3, 8, 1, 6};
        for (int seed = 0; seed < first.length; seed++) {
            e.calls(x, "drift(" + seed + ", 1, 0) = " + first[seed]);
        }
        e.calls(x, "drift(1, 60, 0) = 357", "drift(1, 60, 1) = 6", "drift(6, 60, 0) = 180",
                "drift(10, 60, 0) = 438", "drift(10, 60, 1) = 8");
        SeatCast y = e.told("house 3 4;soft;part5 0;part6 0;part0 1;part11 2;one0 5 0;one11 1 3;"
                + "away2 0 0;away5 0;line0;line1;line2;line0;line1;line0;line0;line2;");
        String[] seeds = {"0", "1", "-1", "MIN", "12345", "65536"};
        int[][] sums = {{3, 4, 104, 108}, {3, 5, 241, 245}, {4, 8, 177, 178}, {3, 4, 104, 108},
            {1, 4, 149, 153}, {4, 6, 135, 139}};
        int[] times = {1, 2, 59, 60};
        for (int s = 0; s < seeds.length; s++) {
            for (int t = 0; t < times.length; t++) {
                e.calls(y, "drift(" + seeds[s] + ", " + times[t] + ", 0) = " + sums[s][t]);
            }
        }
    }

    private static void driftSits(Edges e) {
        // seed 1, two people, three seats: 0 to 1, 1 to 1, 1 to 2, 0 to 0, 0 to 0
        e.sentence(37, "that ONE is in that SEAT, if nobody else is");
        SeatCast x = e.told("house 1 3;part1 0;one0 0 0;one1 0 9;line0;");
        e.calls(x, "drift(1, 1, 0) = 0", "drift(1, 2, 0) = 0", "sit(1, NONE) = 1",
                "drift(1, 1, 0) = 1", "drift(1, 2, 0) = 2", "drift(1, 3, 0) = 3",
                "drift(1, 4, 0) = 3");
        // he himself is there already, and stays
        e.calls(x, "sit(0, 1) = 0", "drift(1, 1, 0) = 1", "drift(1, 1, 1) = 1");
        e.sentence(37, "then there is a NIGHT: LINES SPOKEN in all n of them, summed (what 0), "
                + "in the last one (1).");
        SeatCast y = e.told("house 1 2;part0 0;part1 0;one0 0 0;" + EIGHT);
        for (int n = 1; n <= 60; n++) {
            e.calls(y, "drift(7, " + n + ", 0) = " + 8 * n, "drift(7, " + n + ", 1) = 8");
        }
        e.calls(e.told("one0 0 0;"), "drift(7, 60, 0) = 0", "drift(7, 60, 1) = 0");
    }

    private static void driftRefused(Edges e) {
        e.sentence(37, "BAD; STATE: there is nobody.");
        SeatCast x = e.told("away0 0;line0;");
        String[] bad = {"drift(1, 0, 0)", "drift(1, 61, 0)", "drift(1, -1, 0)", "drift(1, MIN, 0)",
            "drift(1, MAX, 0)", "drift(1, 1, 2)", "drift(1, 1, -1)", "drift(1, 1, NONE)",
            "drift(1, 1, MIN)", "drift(1, 1, MAX)"};
        for (String call : bad) {
            e.calls(x, call + " = BAD");
            e.calls(new SeatCast(), call + " = BAD");
        }
        e.calls(x, "drift(1, 1, 0) = 0", "drift(1, 60, 1) = 0");
        e.calls(new SeatCast(), "drift(1, 1, 0) = STATE", "drift(MIN, 60, 1) = STATE");
        e.calls(e.told("line0;"), "drift(0, 1, 1) = STATE");
    }
}
