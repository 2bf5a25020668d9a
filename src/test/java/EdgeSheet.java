/** Terms: sheets and their faults; promises 38 to 44: images, sheets and what is counted. */
final class EdgeSheet {
    private static final String[] NO_SHEET = {"4", "-1", "NONE", "MIN", "MAX"};
    private static final String[] NO_LANE = {"3", "-1", "NONE", "MIN", "MAX"};

    private EdgeSheet() {
    }

    static void check(Edges e) {
        sheets(e);
        faults(e);
        keep(e);
        back(e);
        backAll(e);
        sheet(e);
        lay(e);
        read(e);
        readTorn(e);
        readNone(e);
        readRefused(e);
        torn(e);
        count(e);
    }

    private static void sheets(Edges e) {
        e.sentence(0, "SHEETS 0 to 3 are rows of BYTES (lane 0), SHORTS (1), INTS (2), all with a sign");
        // a SEAT is 0 to 5 or NONE, -4: what a cell makes of a number is seen by who comes
        int[] laid = {5, -4, 127, 128, 251, 252, 255, 256, 261, -251, -256, 32767, 32768, 65532, 65535,
            65536, 65541, -65531, Integer.MAX_VALUE, Integer.MIN_VALUE, 2147483644, -2147483644};
        for (int k = 0; k <= 3; k++) {
            for (int lane = 0; lane <= 2; lane++) {
                SeatCast x = e.told("one1 0 0;");
                e.calls(x, "sheet(" + k + ", " + lane + ", 2) = 1");
                for (int v : laid) {
                    long cell = lane == 0 ? (byte) v : lane == 1 ? (short) v : v;
                    boolean comes = cell == -4 || cell >= 0 && cell <= 5;
                    String read = "read(" + k + ", " + lane + ", 0, 1) = ";
                    e.calls(x, "lay(" + k + ", 1, " + v + ") = 1", read + (comes ? 1 : -20));
                    if (comes) {
                        e.calls(x, "one(0, 0) = " + cell);
                    }
                }
            }
        }
        e.sentence(0, "with 0 to 40 CELLS");
        SeatCast y = new SeatCast();
        for (int lane = 0; lane <= 2; lane++) {
            for (int n : new int[] {0, 1, 39, 40}) {
                e.calls(y, "sheet(0, " + lane + ", " + n + ") = 1", "count(5) = " + n,
                        "lay(0, " + n + ", 0) = -12", "lay(0, -1, 0) = -12",
                        "lay(0, " + (n - 1) + ", 0) = " + (n == 0 ? -12 : 1));
            }
        }
        e.sentence(0, "or nothing (at first).");
        SeatCast z = new SeatCast();
        for (int k = 0; k <= 3; k++) {
            e.calls(z, "lay(" + k + ", 0, 0) = -11", "read(" + k + ", 0, 0, 1) = 0", "torn() = 1");
        }
        e.calls(z, "count(5) = NONE");
    }

    private static void faults(Edges e) {
        SeatCast x = new SeatCast();
        e.sentence(0, "A FAULT is what the machine finds: 1 NULL (nothing)");
        e.calls(x, "lay(0, 0, 0) = -11", "lay(0, -1, 0) = -11", "lay(0, 40, 0) = -11",
                "read(0, 0, 0, 1) = 0", "torn() = 1", "read(0, 2, -1, 20) = 0", "torn() = 1");
        e.sentence(0, "2 INDEX");
        e.calls(x, "sheet(0, 1, 2) = 1", "lay(0, 2, 0) = -12", "lay(0, -1, 0) = -12",
                "lay(0, MIN, 0) = -12", "lay(0, MAX, 0) = -12", "read(0, 1, 1, 1) = 0",
                "torn() = 2", "read(0, 1, -1, 1) = 0", "torn() = 2");
        e.sentence(0, "3 CAST (another lane)");
        for (int lane = 0; lane <= 2; lane++) {
            for (int as = 0; as <= 2; as++) {
                SeatCast y = e.told("one0 0 0;");
                e.calls(y, "sheet(2, " + lane + ", 2) = 1",
                        "read(2, " + as + ", 0, 1) = " + (as == lane ? 1 : 0),
                        "torn() = " + (as == lane ? 0 : 3));
            }
        }
        // found ahead of the INDEX, as the sheet is taken first; a sheet of no cells is one, too
        e.calls(x, "read(0, 0, 9, 1) = 0", "torn() = 3", "sheet(0, 1, 0) = 1",
                "read(0, 0, 0, 1) = 0", "torn() = 3", "read(0, 1, 0, 1) = 0", "torn() = 2");
        e.sentence(0, "4 SIZE (below 0).");
        e.calls(x, "sheet(0, 0, -1) = -14", "sheet(0, 0, MIN) = -14");
    }

    private static void keep(Edges e) {
        e.sentence(38, "IMAGE k (0, 1) is PARTS, PEOPLE (all of them), LINES that OPEN, LAW, "
                + "what was SEEN: whether there was one (1, 0).");
        SeatCast x = e.told("house 1 2;part0 0;one0 0 0;line0;");
        e.calls(x, "count(3) = 0", "keep(1) = 0", "keep(1) = 1", "count(3) = 1", "keep(0) = 0",
                "keep(0) = 1", "count(3) = 2", "back(0) = 1", "keep(0) = 1", "count(3) = 2");
        // a later one is in place of the one before; it does not change with what it was taken of
        e.calls(x, "see(0, 0) = 1", "keep(0) = 1", "forget(0) = 1", "see(0, NONE) = 1",
                "sit(0, 1) = 0", "back(1) = 1", "count(2) = 0", "one(0, 0) = 0", "back(0) = 1",
                "count(2) = 1", "fits(10) = 1", "sit(0, NONE) = 0", "back(0) = 1",
                "one(0, 0) = 0");
        e.calls(new SeatCast(), "keep(0) = 0", "back(0) = 0", "rule(2) = 0");
        e.sentence(38, "BAD.");
        for (String k : new String[] {"2", "-1", "NONE", "MIN", "MAX"}) {
            e.calls(x, "keep(" + k + ") = BAD");
        }
        e.calls(x, "count(3) = 2");
    }

    private static void back(Edges e) {
        e.sentence(39, "All is as IMAGE k: LINES SPOKEN.");
        SeatCast x = e.told("house 1 2;part0 0;one0 0 0;line0;scene0;line0;");
        e.calls(x, "keep(0) = 0", "law(1) = 0", "comes(0, 1) = 0", "keep(1) = 0", "back(0) = 3",
                "rule(4) = 0", "back(1) = 2", "rule(4) = 1", "back(1) = 2", "back(0) = 3",
                "one(0, 2) = 0");
        e.sentence(39, "BAD; STATE: there is none.");
        SeatCast y = e.told("line0;");
        e.calls(y, "back(0) = STATE", "back(1) = STATE", "back(2) = BAD", "back(-1) = BAD",
                "back(NONE) = BAD", "back(MIN) = BAD", "back(MAX) = BAD", "keep(1) = 0",
                "back(0) = STATE", "back(1) = 0", "back(2) = BAD", "text() = 0",
                "back(1) = STATE");
        // a text with a fault leaves it
        e.calls(y, "keep(0) = 0", "feed(63) = 1", "text() = -10", "back(0) = 0",
                "back(1) = STATE");
    }

    private static void backAll(Edges e) {
        e.sentence(39, "All is as IMAGE k");
        SeatCast x = e.told("house 2 3;part0 0;part1 1;one0 1 2 1;one1 3 4;away5 6;line0;line1;"
                + "scene0;");
        e.calls(x, "see(0, NONE) = 1", "see(2, 0) = 2", "keep(1) = 0", "part(0, 5) = 0",
                "part(1, NONE) = 1", "part(5, 2) = NONE", "sit(0, 5) = 0", "sit(2, 4) = NONE",
                "sit(1, NONE) = 1", "voice(0, 0) = 1", "voice(1, 0) = 3", "voice(2, 0) = 5",
                "comes(0, 0) = 2", "comes(1, 9) = 4", "comes(2, 0) = 6", "feud(0, 1, false) = 1",
                "feud(1, 1, true) = 0", "feud(2, 2, true) = 0", "law(1) = 0",
                "opens(1, true) = 0", "opens(2, false) = 1", "forget(0) = 2", "see(1, 1) = 1",
                "sheet(0, 0, 3) = 1", "feed(59) = 1", "read(1, 0, 0, 1) = 0", "back(1) = 1");
        int[][] people = {{0, 1, 2, 2}, {1, 3, 4, 0}, {SeatCast.NONE, 5, 6, 0}};
        for (int p = 0; p < people.length; p++) {
            for (int what = 0; what < 4; what++) {
                e.calls(x, "one(" + p + ", " + what + ") = " + people[p][what]);
            }
        }
        e.calls(x, "seat(0, 0) = 0", "seat(1, 0) = 1", "seat(5, 0) = NONE", "line(1, 1) = 0",
                "line(2, 1) = 1", "rule(4) = 0", "count(2) = 2", "fits(10) = 1");
        // what is no part of it stays: the tape, the sheets, the faults
        e.calls(x, "count(4) = 1", "count(5) = 3", "torn() = 1", "fault() = 0", "text() = -10",
                "fault() = 2", "back(1) = 1", "fault() = 2");
    }

    private static void sheet(Edges e) {
        e.sentence(40, "A SHEET is a new row of CELLS 0: 1.");
        SeatCast x = e.told("one5 0 0;away0 0;");
        for (int k = 0; k <= 3; k++) {
            for (int lane = 0; lane <= 2; lane++) {
                String read = "read(" + k + ", " + lane + ", 0, 1) = ";
                e.calls(x, "sheet(" + k + ", " + lane + ", 40) = 1",
                        "read(" + k + ", " + lane + ", 0, 20) = 20", "one(0, 0) = 0",
                        "lay(" + k + ", 0, 9) = 1", read + -20,
                        "sheet(" + k + ", " + lane + ", 2) = 1", read + 1,
                        "sheet(" + k + ", " + (lane + 1) % 3 + ", 2) = 1", read + 0, "torn() = 3",
                        "sheet(" + k + ", " + lane + ", 0) = 1", read + 0, "torn() = 2");
            }
        }
        e.sentence(40, "BAD: also n above 40; -14 (SIZE): n below 0.");
        for (String k : NO_SHEET) {
            e.calls(x, "sheet(" + k + ", 0, 1) = BAD", "sheet(" + k + ", 0, -1) = BAD");
        }
        for (String lane : NO_LANE) {
            e.calls(x, "sheet(0, " + lane + ", 1) = BAD", "sheet(0, " + lane + ", -1) = BAD");
        }
        e.calls(x, "sheet(0, 0, 0) = 1", "count(5) = 0", "sheet(0, 0, 40) = 1", "count(5) = 40",
                "sheet(0, 0, 41) = BAD", "sheet(0, 1, MAX) = BAD", "sheet(0, 2, -1) = -14",
                "sheet(0, 1, MIN) = -14", "count(5) = 40", "lay(0, 39, 9) = 1",
                "read(0, 0, 38, 1) = -20", "sheet(0, 1, -1) = -14", "read(0, 0, 38, 1) = -20");
    }

    private static void lay(Edges e) {
        e.sentence(41, "CELL i of a SHEET becomes v (its lowest bits): 1.");
        SeatCast x = e.told("one1 0 0;away0 0;");
        e.calls(x, "sheet(3, 0, 40) = 1", "lay(3, 39, 261) = 1", "lay(3, 38, 256) = 1",
                "read(3, 0, 38, 1) = 1", "one(0, 0) = 5", "lay(3, 39, 252) = 1",
                "read(3, 0, 38, 1) = 1", "one(0, 0) = NONE", "lay(3, 0, -255) = 1",
                "lay(3, 1, -253) = 1", "read(3, 0, 0, 1) = 1", "one(1, 0) = 3",
                "sheet(3, 1, 2) = 1", "lay(3, 1, 261) = 1", "read(3, 1, 0, 1) = -20",
                "lay(3, 1, 65541) = 1", "read(3, 1, 0, 1) = 1", "one(0, 0) = 5",
                "lay(3, 1, 65532) = 1", "read(3, 1, 0, 1) = 1", "one(0, 0) = NONE",
                "sheet(3, 2, 2) = 1", "lay(3, 1, 65541) = 1", "read(3, 2, 0, 1) = -20",
                "lay(3, 1, MAX) = 1", "read(3, 2, 0, 1) = -20", "lay(3, 1, MIN) = 1",
                "read(3, 2, 0, 1) = -20", "lay(3, 1, 5) = 1", "read(3, 2, 0, 1) = 1",
                "one(0, 0) = 5");
        e.sentence(41, "BAD: k; -10 less the FAULT: NULL, INDEX.");
        for (String k : NO_SHEET) {
            e.calls(x, "lay(" + k + ", 0, 0) = BAD", "lay(" + k + ", -1, 0) = BAD");
        }
        e.calls(x, "lay(0, 0, 0) = -11", "lay(0, -1, 0) = -11", "lay(1, MAX, 0) = -11",
                "lay(2, 0, 0) = -11", "lay(3, 2, 0) = -12", "lay(3, -1, 0) = -12",
                "lay(3, 40, 0) = -12", "lay(3, MIN, 0) = -12", "lay(3, MAX, 0) = -12",
                "lay(3, 1, 4) = 1", "read(3, 2, 0, 1) = 1", "one(0, 0) = 4");
    }

    private static void read(Edges e) {
        e.sentence(42, "n (0 to 20) times a ONE, a SEAT are read of a SHEET taken as of a lane, "
                + "two CELLS each from CELL f on, one behind another as by sit(): how many came.");
        SeatCast x = e.told("one0 0 0;one1 0 0;");
        // 0 goes to 5, 1 to where 0 has been, 0 away, 1 to where 0 was last
        cells(e, x, 1, 2, 9, 0, 5, 1, 0, 0, -4, 1, 5);
        e.calls(x, "read(1, 2, 1, 1) = 1", "one(0, 0) = 5", "one(1, 0) = 1",
                "read(1, 2, 1, 2) = 2", "one(1, 0) = 0", "sit(1, 1) = 0", "read(1, 2, 3, 1) = 1",
                "one(1, 0) = 0", "read(1, 2, 1, 4) = 4", "one(0, 0) = NONE", "one(1, 0) = 5",
                "torn() = 0", "read(1, 2, 7, 1) = 1", "one(1, 0) = 5");
        SeatCast y = e.told("one5 0 0;");
        e.calls(y, "sheet(0, 0, 40) = 1", "read(0, 0, 0, 20) = 20", "one(0, 0) = 0",
                "lay(0, 39, 3) = 1", "read(0, 0, 0, 19) = 19", "one(0, 0) = 0",
                "read(0, 0, 38, 1) = 1", "one(0, 0) = 3", "read(0, 0, 36, 2) = 2",
                "one(0, 0) = 3", "read(0, 0, 2, 20) = 19", "torn() = 2", "one(0, 0) = 3");
    }

    private static void readTorn(Edges e) {
        e.sentence(42, "What the machine refuses: those that were whole ahead come");
        SeatCast x = e.told("one0 0 0;one1 0 0;");
        cells(e, x, 0, 1, 0, 5, 1, 4, 0);
        e.calls(x, "read(0, 1, 0, 3) = 2", "torn() = 2", "one(0, 0) = 5", "one(1, 0) = 4",
                "read(0, 1, 0, 20) = 2", "torn() = 2", "read(0, 1, 4, 1) = 0", "torn() = 2",
                "read(0, 1, 5, 1) = 0", "torn() = 2", "read(0, 1, 2, 2) = 1", "torn() = 2",
                "read(0, 1, -1, 1) = 0", "torn() = 2", "read(0, 1, -2, 3) = 0", "torn() = 2",
                "read(0, 1, MIN, 20) = 0", "torn() = 2", "read(0, 1, MAX, 20) = 0", "torn() = 2",
                "read(0, 1, 2147483646, 20) = 0", "torn() = 2", "one(0, 0) = 5",
                "one(1, 0) = 4");
        e.calls(x, "read(0, 0, 0, 2) = 0", "torn() = 3", "read(0, 2, 0, 2) = 0", "torn() = 3",
                "read(3, 2, 0, 2) = 0", "torn() = 1", "read(0, 1, 0, 2) = 2", "torn() = 0");
        // a pair that is not whole is not asked of sit(), even if there is no such ONE
        e.calls(x, "lay(0, 4, 9) = 1", "read(0, 1, 4, 1) = 0", "torn() = 2",
                "read(0, 1, 0, 3) = 2", "torn() = 2");
    }

    private static void readNone(Edges e) {
        e.sentence(42, "(its FAULT is asked by torn(); of n 0: 0, no FAULT, whatever the SHEET is).");
        SeatCast x = e.told("one0 0 0;");
        e.calls(x, "sheet(1, 1, 3) = 1", "sheet(2, 0, 0) = 1");
        for (int k = 0; k <= 3; k++) {
            for (int lane = 0; lane <= 2; lane++) {
                for (String f : new String[] {"0", "3", "-1", "MIN", "MAX"}) {
                    // nothing: a fault ahead, that is gone then
                    e.ask(x, "read(3, 0, 0, 1)");
                    e.calls(x, "torn() = 1", "read(" + k + ", " + lane + ", " + f + ", 0) = 0",
                            "torn() = 0");
                }
            }
        }
    }

    private static void readRefused(Edges e) {
        e.sentence(42, "BAD: k, lane, n");
        SeatCast x = e.told("one0 0 0;one1 0 0;");
        cells(e, x, 0, 0, 0, 5, 1, 4);
        for (String k : NO_SHEET) {
            e.calls(x, "read(" + k + ", 0, 0, 1) = BAD", "read(" + k + ", 0, 0, 0) = BAD");
        }
        for (String lane : NO_LANE) {
            e.calls(x, "read(0, " + lane + ", 0, 1) = BAD", "read(0, " + lane + ", 0, 0) = BAD",
                    "read(3, " + lane + ", 0, 1) = BAD");
        }
        for (String n : new String[] {"21", "-1", "NONE", "MIN", "MAX"}) {
            e.calls(x, "read(0, 0, 0, " + n + ") = BAD", "read(3, 0, 0, " + n + ") = BAD");
        }
        e.calls(x, "one(0, 0) = 0", "one(1, 0) = 1", "torn() = 0");
        e.sentence(42, "-20 less i (from 0 on): the i-th, whole, is refused by sit() "
                + "(in whichever way): then none came; the first met.");
        int[][] refused = {{2, 5}, {-1, 5}, {-4, 5}, {1, 6}, {1, -1}, {1, -3}, {1, -5}, {1, 3}};
        for (int[] pair : refused) {
            // 0 goes to 3, then one is refused; then another would be, then the cells end
            cells(e, x, 3, 2, 0, 3, pair[0], pair[1], 9, 9);
            e.calls(x, "read(3, 2, 0, 2) = -21", "one(0, 0) = 0", "one(1, 0) = 1",
                    "read(3, 2, 0, 3) = -21", "read(3, 2, 0, 4) = -21", "one(0, 0) = 0",
                    "read(3, 2, 4, 2) = -20", "read(3, 2, 0, 1) = 1", "one(0, 0) = 3",
                    "sit(0, 0) = 3");
        }
        // the last of twenty
        SeatCast y = e.told("one0 0 0;");
        e.calls(y, "sheet(0, 2, 40) = 1", "lay(0, 1, 4) = 1", "lay(0, 38, 1) = 1",
                "read(0, 2, 0, 20) = -39", "one(0, 0) = 0", "read(0, 2, 0, 19) = 19",
                "one(0, 0) = 0", "read(0, 2, 0, 1) = 1", "one(0, 0) = 4");
        e.calls(y, "text() = 0", "read(0, 2, 0, 20) = -20");
    }

    private static void torn(Edges e) {
        e.sentence(43, "The FAULT of the latest read() that answered 0 or more; 0 "
                + "(one that is refused leaves it).");
        SeatCast x = e.told("one0 0 0;one1 0 0;");
        e.calls(x, "torn() = 0", "read(0, 0, 0, 1) = 0", "torn() = 1", "torn() = 1",
                "read(0, 0, 0, 21) = BAD", "torn() = 1", "read(4, 0, 0, 1) = BAD", "torn() = 1",
                "sheet(0, 0, 3) = 1", "lay(0, 1, 1) = 1", "read(0, 0, 0, 1) = -20", "torn() = 1",
                "lay(0, 1, 2) = 1", "read(0, 0, 0, 1) = 1", "torn() = 0", "read(0, 0, 0, 2) = 1",
                "torn() = 2", "read(0, 1, 0, 1) = 0", "torn() = 3", "lay(0, 1, 1) = 1",
                "read(0, 0, 0, 2) = -20", "torn() = 3", "read(0, 0, 0, 0) = 0", "torn() = 0");
        // what other calls find is none of it
        e.calls(x, "lay(0, 9, 0) = -12", "lay(1, 0, 0) = -11", "sheet(0, 0, -1) = -14",
                "feed(63) = 1", "text() = -10", "torn() = 0", "read(1, 0, 0, 1) = 0",
                "sheet(1, 0, 2) = 1", "keep(0) = 0", "back(0) = 0", "text() = 0", "torn() = 1");
    }

    private static void count(Edges e) {
        SeatCast x = e.told("house 3 4;one0 0 0;away0 0;one1 0 0;one2 0 0;line0;scene0;line1;scene2;");
        e.sentence(44, "How many: 0 PEOPLE who are not away");
        e.calls(x, "count(0) = 3", "sit(1, 11) = NONE", "count(0) = 4", "sit(0, NONE) = 0",
                "sit(1, NONE) = 11", "sit(2, NONE) = 1", "sit(3, NONE) = 2", "count(0) = 0",
                "rule(2) = 4");
        e.calls(new SeatCast(), "count(0) = 0");
        e.sentence(44, "1 SEATS with a PART");
        e.calls(x, "count(1) = 0");
        for (int s = 0; s < 12; s++) {
            e.ask(x, "part(" + s + ", 0)");
            e.calls(x, "count(1) = " + (s + 1));
        }
        e.calls(x, "part(5, NONE) = 0", "count(1) = 11");
        e.sentence(44, "2 SEEN");
        for (int n = 1; n <= 8; n++) {
            e.calls(x, "count(2) = " + (n - 1), "see(0, NONE) = " + n);
        }
        e.calls(x, "see(0, NONE) = FULL", "count(2) = 8");
        e.sentence(44, "3 IMAGES");
        e.calls(x, "count(3) = 0", "keep(1) = 0", "count(3) = 1", "keep(0) = 0", "count(3) = 2",
                "keep(0) = 1", "count(3) = 2");
        e.sentence(44, "4 bytes on THE TAPE");
        e.calls(x, "count(4) = 0", "feed(32) = 1", "count(4) = 1", "feed(128) = BAD",
                "count(4) = 1", "end(0) = 1", "count(4) = 0");
        e.sentence(44, "5 CELLS of SHEET 0 (NONE: nothing)");
        e.calls(x, "count(5) = NONE", "sheet(1, 0, 7) = 1", "count(5) = NONE",
                "sheet(0, 0, 0) = 1", "count(5) = 0", "sheet(0, 2, 40) = 1", "count(5) = 40");
        e.sentence(44, "6 SCENES. BAD.");
        e.calls(x, "count(6) = 3", "opens(2, true) = 0", "count(6) = 4", "opens(0, false) = 1",
                "count(6) = 4", "count(7) = BAD", "count(-1) = BAD", "count(MIN) = BAD",
                "count(MAX) = BAD");
        e.calls(e.told("line0;line0;"), "count(6) = 1");
        e.calls(new SeatCast(), "count(6) = 0");
    }

    /** A new sheet of these cells. */
    private static void cells(Edges e, SeatCast x, int k, int lane, int... cells) {
        e.calls(x, "sheet(" + k + ", " + lane + ", " + cells.length + ") = 1");
        for (int i = 0; i < cells.length; i++) {
            e.calls(x, "lay(" + k + ", " + i + ", " + cells[i] + ") = 1");
        }
    }
}
