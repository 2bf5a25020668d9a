/** Promises 10 to 17: what is changed. */
final class EdgeChange {
    private EdgeChange() {
    }

    static void check(Edges e) {
        sit(e);
        swap(e);
        part(e);
        voice(e);
        comes(e);
        feud(e);
        law(e);
        opens(e);
    }

    private static void sit(Edges e) {
        e.sentence(10, "A ONE is in a SEAT (NONE: away): where he was (NONE).");
        SeatCast x = e.told("house 3 4;one 0 0 0;one 1 0 0;away 0 0;");
        e.calls(x, "sit(0, 11) = 0", "one(0, 0) = 11", "seat(0, 1) = NONE", "seat(11, 1) = 0",
                "sit(0, 11) = 11", "sit(0, NONE) = 11", "one(0, 0) = NONE", "seat(11, 1) = NONE",
                "sit(0, NONE) = NONE", "sit(2, NONE) = NONE", "sit(2, 11) = NONE",
                "seat(11, 1) = 2", "sit(0, 0) = NONE", "count(0) = 3");
        e.sentence(10, "BAD; STATE: another one is there.");
        e.calls(x, "sit(0, 11) = STATE", "sit(0, 1) = STATE", "one(0, 0) = 0", "sit(0, 0) = 0",
                "sit(0, 12) = BAD", "sit(0, -1) = BAD", "sit(0, -2) = BAD", "sit(0, -3) = BAD",
                "sit(0, -5) = BAD", "sit(0, MIN) = BAD", "sit(0, MAX) = BAD", "sit(3, 0) = BAD",
                "sit(3, 5) = BAD", "sit(-1, 5) = BAD", "sit(NONE, 5) = BAD", "sit(MIN, 5) = BAD",
                "sit(MAX, 5) = BAD", "sit(3, NONE) = BAD", "one(0, 0) = 0", "seat(5, 1) = NONE",
                "sit(0, NONE) = 0", "sit(0, 11) = STATE", "one(0, 0) = NONE");
        SeatCast small = e.told("house 1 2;one 0 0 0;");
        e.calls(small, "sit(0, 1) = 0", "sit(0, 2) = BAD", "one(0, 0) = 1");
    }

    private static void swap(Edges e) {
        e.sentence(11, "Two PEOPLE change SEATS (away, too): the SEAT of the first one then (NONE).");
        SeatCast x = e.told("one 0 1 2 3;away 0 0;away 0 0;one 5 0 0;");
        e.calls(x, "swap(0, 3) = 5", "one(0, 0) = 5", "one(3, 0) = 0", "swap(0, 1) = NONE",
                "one(0, 0) = NONE", "one(1, 0) = 5", "swap(0, 1) = 5", "swap(1, 2) = NONE",
                "one(1, 0) = NONE", "one(2, 0) = NONE", "swap(2, 3) = 0", "one(3, 0) = NONE",
                "seat(0, 1) = 2", "seat(5, 1) = 0", "one(0, 1) = 1", "one(0, 2) = 2",
                "one(0, 3) = 8", "one(3, 1) = 0", "count(0) = 2");
        e.sentence(11, "BAD (also alike).");
        e.calls(x, "swap(0, 0) = BAD", "swap(1, 1) = BAD", "swap(3, 3) = BAD", "swap(4, 4) = BAD",
                "swap(0, 4) = BAD", "swap(4, 0) = BAD", "swap(0, -1) = BAD", "swap(-1, 0) = BAD",
                "swap(NONE, 0) = BAD", "swap(0, NONE) = BAD", "swap(MAX, 0) = BAD",
                "swap(0, MIN) = BAD", "one(0, 0) = 5", "one(2, 0) = 0", "one(1, 0) = NONE");
        e.calls(e.told("one 0 0 0;"), "swap(0, 0) = BAD", "swap(0, 1) = BAD", "one(0, 0) = 0");
    }

    private static void part(Edges e) {
        e.sentence(12, "PART of a SEAT becomes k (NONE: none): what it was (NONE).");
        SeatCast x = e.told("house 3 4;");
        e.calls(x, "part(11, NONE) = NONE", "part(11, 0) = NONE", "part(11, 5) = 0",
                "part(11, 5) = 5", "seat(11, 0) = 5", "seat(10, 0) = NONE", "part(11, NONE) = 5",
                "seat(11, 0) = NONE", "part(0, 3) = NONE", "seat(0, 0) = 3", "count(1) = 1");
        e.sentence(12, "BAD.");
        // each a PART, a SEAT that is not as told
        int[] notParts = {6, -1, -2, -3, -5, Integer.MIN_VALUE, Integer.MAX_VALUE};
        for (int k : notParts) {
            e.calls(x, "part(0, " + k + ") = BAD", "seat(0, 0) = 3");
        }
        int[] notSeats = {12, -1, SeatCast.NONE, Integer.MIN_VALUE, Integer.MAX_VALUE};
        for (int s : notSeats) {
            e.calls(x, "part(" + s + ", 0) = BAD", "part(" + s + ", NONE) = BAD", "count(1) = 1");
        }
    }

    private static void voice(Edges e) {
        e.sentence(13, "VOICE of a ONE becomes v: what it was.");
        SeatCast x = e.told("one 0 2 0;away 5 0;");
        e.calls(x, "voice(0, 0) = 2", "voice(0, 5) = 0", "voice(0, 5) = 5", "voice(1, 1) = 5",
                "one(0, 1) = 5", "one(1, 1) = 1");
        e.sentence(13, "BAD.");
        e.calls(x, "voice(0, 6) = BAD", "voice(0, -1) = BAD", "voice(0, NONE) = BAD",
                "voice(0, MIN) = BAD", "voice(0, MAX) = BAD", "voice(2, 0) = BAD",
                "voice(-1, 0) = BAD", "voice(MIN, 0) = BAD", "voice(MAX, 0) = BAD",
                "one(0, 1) = 5", "one(1, 1) = 1");
    }

    private static void comes(Edges e) {
        e.sentence(14, "A ONE COMES with LINE i (0 to 9): with which he did.");
        SeatCast x = e.told("one 0 0 2;away 0 9;");
        // there is no LINE at all, and yet he comes with one
        e.calls(x, "comes(0, 0) = 2", "comes(0, 9) = 0", "comes(0, 9) = 9", "comes(1, 1) = 9",
                "one(0, 2) = 9", "one(1, 2) = 1");
        e.sentence(14, "BAD.");
        e.calls(x, "comes(0, 10) = BAD", "comes(0, -1) = BAD", "comes(0, NONE) = BAD",
                "comes(0, MIN) = BAD", "comes(0, MAX) = BAD", "comes(2, 0) = BAD",
                "comes(-1, 0) = BAD", "comes(MIN, 0) = BAD", "comes(MAX, 0) = BAD",
                "one(0, 2) = 9", "one(1, 2) = 1");
    }

    private static void feud(Edges e) {
        e.sentence(15, "A ONE FEUDS with another one (or himself), or not: whether he did.");
        SeatCast x = e.told("one 0 0 0 3;away 0 0;away 0 0;away 0 0;");
        e.calls(x, "feud(0, 3, true) = 1", "feud(0, 3, false) = 1", "feud(0, 3, false) = 0",
                "feud(0, 0, true) = 0", "feud(0, 0, true) = 1", "one(0, 3) = 1",
                "feud(3, 0, true) = 0", "feud(3, 3, true) = 0", "one(3, 3) = 9", "one(0, 3) = 1",
                "feud(0, 0, false) = 1", "one(0, 3) = 0", "feud(1, 2, true) = 0",
                "one(1, 3) = 4", "one(2, 3) = 0");
        e.sentence(15, "BAD.");
        SeatCast y = e.told("one 0 0 0;away 0 0;");
        e.calls(y, "feud(0, 2, true) = BAD", "feud(2, 0, true) = BAD", "feud(2, 2, true) = BAD",
                "feud(0, -1, true) = BAD", "feud(-1, 0, true) = BAD", "feud(0, 32, true) = BAD",
                "feud(0, NONE, true) = BAD", "feud(0, MIN, true) = BAD",
                "feud(0, MAX, false) = BAD", "feud(MIN, 0, true) = BAD",
                "feud(MAX, 0, false) = BAD", "one(0, 3) = 0", "one(1, 3) = 0");
    }

    private static void law(Edges e) {
        e.sentence(16, "LAW becomes v: what it was.");
        SeatCast x = new SeatCast();
        e.calls(x, "law(0) = 0", "law(1) = 0", "law(1) = 1", "rule(4) = 1", "law(0) = 1",
                "rule(4) = 0", "law(1) = 0");
        e.sentence(16, "BAD.");
        e.calls(x, "law(2) = BAD", "law(-1) = BAD", "law(NONE) = BAD", "law(MIN) = BAD",
                "law(MAX) = BAD", "rule(4) = 1");
    }

    private static void opens(Edges e) {
        e.sentence(17, "A LINE OPENS a SCENE, or not (the first one ever does): whether it did.");
        SeatCast x = e.told("line0;line0;line0;line0;line0;line0;line0;scene0;");
        e.calls(x, "opens(0, false) = 1", "line(0, 1) = 1", "opens(0, false) = 1",
                "opens(0, true) = 1", "count(6) = 2", "opens(7, false) = 1", "opens(7, false) = 0",
                "line(7, 1) = 0", "opens(7, true) = 0", "opens(7, true) = 1", "opens(1, true) = 0",
                "line(1, 1) = 1", "line(2, 1) = 0", "count(6) = 3");
        SeatCast y = e.told("scene0;");
        e.calls(y, "opens(0, false) = 1", "line(0, 1) = 1", "count(6) = 1");
        e.sentence(17, "BAD.");
        e.calls(x, "opens(8, true) = BAD", "opens(-1, true) = BAD", "opens(NONE, false) = BAD",
                "opens(32, false) = BAD", "opens(MIN, true) = BAD", "opens(MAX, true) = BAD",
                "count(6) = 3");
        e.calls(y, "opens(1, true) = BAD", "count(6) = 1");
        e.calls(new SeatCast(), "opens(0, true) = BAD", "opens(0, false) = BAD", "count(6) = 0");
    }
}
