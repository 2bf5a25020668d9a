/** Terms 1, the house, and promise 1: its bounds, what is at first. */
final class EdgeHouse {
    private static final String EIGHT = "line0;line0;line0;line0;line0;line0;line0;line0;";

    private EdgeHouse() {
    }

    static void check(Edges e) {
        answers(e);
        rowsAndPlaces(e);
        seatsByNumbers(e);
        partsOfSeats(e);
        people(e);
        voices(e);
        comes(e);
        feuds(e);
        lines(e);
        law(e);
        newObject(e);
    }

    private static void answers(Edges e) {
        e.sentence(0, "Answers: BAD -1");
        e.due("BAD", SeatCast.BAD, -1);
        e.sentence(0, "STATE -2 (as told)");
        e.due("STATE", SeatCast.STATE, -2);
        e.sentence(0, "FULL -3");
        e.due("FULL", SeatCast.FULL, -3);
        e.sentence(0, "NONE -4 (there is none)");
        e.due("NONE", SeatCast.NONE, -4);
    }

    private static void rowsAndPlaces(Edges e) {
        e.sentence(0, "THE HOUSE has ROWS (1 to 3; 2 at first)");
        e.calls(new SeatCast(), "rule(0) = 2");
        for (int r = 1; r <= 3; r++) {
            e.calls(e.taken("house " + r + " 2;", 1), "rule(0) = " + r);
        }
        e.refused("house 0 2;", 3, 6);
        e.refused("house 4 2;", 3, 6);
        e.refused("house 99 2;", 3, 6);
        e.sentence(0, "of PLACES (2 to 4; 3 at first)");
        e.calls(new SeatCast(), "rule(1) = 3");
        for (int c = 2; c <= 4; c++) {
            e.calls(e.taken("house 1 " + c + ";", 1), "rule(1) = " + c);
        }
        e.refused("house 1 0;", 3, 8);
        e.refused("house 1 1;", 3, 8);
        e.refused("house 1 5;", 3, 8);
    }

    private static void seatsByNumbers(Edges e) {
        e.sentence(0, "SEATS by numbers, row by row from the front, each row from the left.");
        for (int r = 1; r <= 3; r++) {
            for (int c = 2; c <= 4; c++) {
                int last = r * c - 1;
                SeatCast x = e.told("house " + r + " " + c + ";part0 0;one0 0 0;line0;");
                e.calls(x, "seat(" + last + ", 0) = NONE", "seat(" + (last + 1) + ", 0) = BAD",
                        "far(0, " + last + ") = " + (r - 1 + c - 1), "seat(-1, 0) = BAD",
                        "far(0, " + (c - 1) + ") = " + (c - 1));
                // the row that leaves no line is the one where the only speaker sits
                for (int s = 0; s <= last; s++) {
                    e.ask(x, "part(" + s + ", 0)");
                    e.ask(x, "sit(0, " + s + ")");
                    e.calls(x, "row(0) = " + s / c);
                }
            }
        }
    }

    private static void partsOfSeats(Edges e) {
        e.sentence(0, "A SEAT has a PART (0 to 5) or none (at first).");
        SeatCast x = new SeatCast();
        for (int s = 0; s < 6; s++) {
            e.calls(x, "seat(" + s + ", 0) = NONE");
        }
        for (int k = 0; k <= 5; k++) {
            e.calls(e.taken("part 5 " + k + ";", 1), "seat(5, 0) = " + k, "seat(4, 0) = NONE",
                    "part(5, NONE) = " + k, "seat(5, 0) = NONE");
        }
        e.refused("part 5 6;", 3, 7);
        e.calls(x, "part(0, 6) = BAD", "part(0, -1) = BAD", "seat(0, 0) = NONE");
    }

    private static void people(Edges e) {
        e.sentence(0, "PEOPLE (4 at most, by order)");
        String four = "one3 0 0;one2 1 0;one1 2 0;one0 3 0;";
        SeatCast x = e.taken(four, 4);
        e.calls(x, "rule(2) = 4", "one(0, 0) = 3", "one(1, 0) = 2", "one(2, 0) = 1",
                "one(3, 0) = 0", "one(3, 1) = 3", "one(4, 0) = BAD");
        e.refused(four + "away0 0;", 5, 36);
        e.refused(four + "one4 0 0;", 5, 36);
        e.sentence(0, "each a ONE in a SEAT (no two in one) or away");
        e.calls(x, "sit(0, 2) = STATE", "sit(0, 3) = 3", "sit(0, NONE) = 3", "sit(1, NONE) = 2",
                "one(0, 0) = NONE", "one(1, 0) = NONE", "sit(2, 3) = 1", "sit(0, 3) = STATE",
                "seat(3, 1) = 2", "seat(2, 1) = NONE");
        e.refused("one2 0 0;one2 0 0;", 4, 12);
        e.taken("away0 0;away0 0;away0 0;away0 0;", 4);
    }

    private static void voices(Edges e) {
        e.sentence(0, "with a VOICE (0 to 5)");
        for (int v = 0; v <= 5; v++) {
            e.calls(e.taken("one0 " + v + " 0;away" + v + " 0;", 2), "one(0, 1) = " + v,
                    "one(1, 1) = " + v);
        }
        e.refused("one0 6 0;", 3, 5);
        e.refused("away6 0;", 3, 4);
        e.calls(e.told("one0 3 0;"), "voice(0, 6) = BAD", "voice(0, -1) = BAD", "one(0, 1) = 3");
    }

    private static void comes(Edges e) {
        e.sentence(0, "he COMES with a LINE (0 to 9; that one and all behind)");
        SeatCast x = e.told("house 1 2;part0 0;one0 0 0;soft;" + EIGHT);
        for (int i = 0; i <= 9; i++) {
            e.ask(x, "comes(0, " + i + ")");
            e.calls(x, "one(0, 2) = " + i, "night(1) = " + (255 >> i << i),
                    "says(0) = " + Math.max(0, 8 - i));
            e.calls(e.taken("one0 0 " + i + ";away0 " + i + ";", 2), "one(0, 2) = " + i,
                    "one(1, 2) = " + i);
        }
        e.refused("one0 0 10;", 3, 7);
        e.refused("away0 10;", 3, 6);
        e.calls(x, "comes(0, 10) = BAD", "comes(0, -1) = BAD", "one(0, 2) = 9");
    }

    private static void feuds(Edges e) {
        e.sentence(0, "he FEUDS with some (bits).");
        for (int some = 0; some < 16; some++) {
            StringBuilder told = new StringBuilder();
            for (int q = 3; q >= 0; q--) {
                told.append((some >> q & 1) == 0 ? "" : " " + q);
            }
            String text = "away0 0" + told + ";away0 0;one0 0 0" + told + ";away0 0;";
            e.calls(e.taken(text, 4), "one(0, 3) = " + some, "one(1, 3) = 0",
                    "one(2, 3) = " + some);
        }
    }

    private static void lines(Edges e) {
        e.sentence(0, "LINES (8 at most, by order): each of a PART");
        SeatCast x = e.taken("line5;line4;line3;line2;line1;line0;line5;line1;", 8);
        e.calls(x, "rule(3) = 8", "line(0, 0) = 5", "line(1, 0) = 4", "line(2, 0) = 3",
                "line(3, 0) = 2", "line(4, 0) = 1", "line(5, 0) = 0", "line(6, 0) = 5",
                "line(7, 0) = 1", "line(8, 0) = BAD");
        e.refused(EIGHT + "line0;", 5, 48);
        e.refused(EIGHT + "scene0;", 5, 48);
        e.sentence(0, "it OPENS a SCENE or not (the first one does).");
        e.calls(x, "line(0, 1) = 1", "line(1, 1) = 0", "line(7, 1) = 0", "count(6) = 1",
                "opens(0, false) = 1", "line(0, 1) = 1");
        e.calls(e.taken("scene0;line0;scene0;scene0;", 4), "line(0, 1) = 1", "line(1, 1) = 0",
                "line(2, 1) = 1", "line(3, 1) = 1", "count(6) = 3");
    }

    private static void law(Edges e) {
        e.sentence(0, "LAW: 0 strict (at first), 1 soft.");
        e.calls(new SeatCast(), "rule(4) = 0");
        e.calls(e.taken("line0;", 1), "rule(4) = 0");
        SeatCast x = e.taken("soft;part0 0;one0 0 0;line1;line0;", 5);
        e.calls(x, "rule(4) = 1", "night(1) = 2", "law(0) = 1", "rule(4) = 0", "night(1) = 0",
                "law(2) = BAD", "law(-1) = BAD", "rule(4) = 0");
    }

    private static void newObject(Edges e) {
        e.sentence(1, "Two ROWS of three");
        SeatCast x = new SeatCast();
        e.calls(x, "rule(0) = 2", "rule(1) = 3", "seat(5, 0) = NONE", "seat(6, 0) = BAD",
                "far(0, 5) = 3");
        e.sentence(1, "nobody");
        e.calls(x, "rule(2) = 0", "one(0, 0) = BAD", "count(0) = 0", "seat(0, 1) = NONE",
                "seat(5, 1) = NONE", "drift(1, 1, 0) = STATE", "without(0) = 0",
                "without(1) = BAD", "swap(0, 1) = BAD", "best(10) = BAD", "fits(10) = BAD");
        e.sentence(1, "no LINES");
        e.calls(x, "rule(3) = 0", "line(0, 0) = BAD", "night(0) = 0", "night(1) = 0",
                "night(2) = NONE", "night(3) = 0", "count(6) = 0", "speaks(0) = BAD",
                "see(0, NONE) = BAD", "luck(0, 0, 0) = BAD", "cut(0) = 0", "cut(1) = 0");
        e.sentence(1, "SHEETS of nothing.");
        e.calls(x, "count(5) = NONE", "lay(0, 0, 0) = -11", "lay(1, 0, 0) = -11",
                "lay(2, 0, 0) = -11", "lay(3, 0, 0) = -11");
        for (int k = 0; k < 4; k++) {
            for (int lane = 0; lane < 3; lane++) {
                e.calls(x, "read(" + k + ", " + lane + ", 0, 0) = 0", "torn() = 0",
                        "read(" + k + ", " + lane + ", 0, 1) = 0", "torn() = 1");
            }
        }
        e.sentence(1, "SeatCast()");
        e.calls(new SeatCast(), "count(1) = 0", "count(2) = 0", "count(3) = 0", "count(4) = 0",
                "fault() = 0", "torn() = 0", "back(0) = STATE", "back(1) = STATE", "rule(4) = 0");
    }
}
