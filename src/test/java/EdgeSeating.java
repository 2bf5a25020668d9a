/** Terms 2, seatings; promises 23 to 28: who should sit where. */
final class EdgeSeating {
    private static final String[] NO_WHAT = {"2", "-1", "NONE", "MIN", "MAX"};

    private EdgeSeating() {
    }

    static void check(Edges e) {
        seatings(e);
        best(e);
        bestSeats(e);
        change(e);
        changeNone(e);
        role(e);
        cut(e);
        cutNumbers(e);
        cutScenes(e);
        louder(e);
        peace(e);
    }

    /** With nothing seen all seatings fit. */
    private static void seatings(Edges e) {
        e.sentence(0, "A SEATING: all PEOPLE who are not away are in SEATS, no two in one.");
        for (int r = 1; r <= 3; r++) {
            for (int c = 2; c <= 4; c++) {
                StringBuilder text = new StringBuilder("house " + r + " " + c + ";away0 0;");
                int ways = 1;
                e.calls(e.told(text.toString()), "fits(0) = 1");
                for (int n = 0; n < 3 && n < r * c; n++) {
                    text.append("one").append(n).append(" 0 0;");
                    ways *= r * c - n;
                    e.calls(e.told(text.toString()), "fits(0) = " + ways, "fits(10) = 0");
                }
            }
        }
        e.calls(new SeatCast(), "fits(0) = 1");
        e.calls(e.told("house 2 2;one0 0 0;one1 0 0;one2 0 0;one3 0 0;"), "fits(0) = 24");
        e.calls(e.told("house 3 4;one0 0 0;one1 0 0;one2 0 0;one3 0 0;"), "fits(0) = 11880");
        // each comes with the line of his number, and each seat has a part of theirs
        SeatCast last = e.told("house 3 4;one0 5 0;one1 5 1;one2 5 2;one3 5 3;"
                + "line0;line1;line2;line3;line4;");
        for (int s = 0; s < 12; s++) {
            e.ask(last, "part(" + s + ", " + (s < 8 ? 4 : 11 - s) + ")");
        }
        e.calls(last, "fits(0) = 11880", "fits(13) = 4095", "best(0) = 4", "best(10) = 11",
                "best(11) = 10", "best(12) = 9", "best(13) = 8", "see(3, 3) = 1", "fits(0) = 1",
                "fits(13) = 256");
    }

    private static void best(Edges e) {
        e.sentence(23, "The most LINES that are SPOKEN by a SEATING (what 0)");
        e.calls(new SeatCast(), "best(0) = 0");
        e.calls(e.told("line0;line0;"), "best(0) = 0");
        e.calls(e.told("part0 0;one0 0 0;"), "best(0) = 0");
        SeatCast x = e.told("house 1 2;part1 0;one0 5 0;line0;line0;line0;line0;line0;line0;"
                + "line0;line0;");
        e.calls(x, "night(0) = 0", "best(0) = 8", "one(0, 0) = 0", "night(0) = 0",
                "sit(0, NONE) = 0", "best(0) = 0", "one(0, 0) = NONE");
        // who is away stays away
        e.calls(e.told("house 1 2;part0 0;part1 0;away5 0;one0 0 9;line0;"), "best(0) = 0");
        // a full house
        e.calls(e.told("house 1 2;part0 0;part1 1;one1 5 0;one0 5 1;line0;line1;"), "night(0) = 0",
                "best(0) = 2", "best(10) = 0", "best(11) = 1");
        SeatCast y = e.told("house 3 4;part11 0;part10 1;one0 0 0;one1 0 1 0;one2 1 0;one3 1 1;"
                + "line0;line1;");
        e.calls(y, "best(0) = 2", "best(10) = 0", "best(11) = 1", "best(12) = 11", "best(13) = 10");
    }

    private static void bestSeats(Edges e) {
        e.sentence(23, "10 and p: the SEAT of a ONE by the first such SEATING "
                + "(by PEOPLE, SEATS by numbers; NONE: he is away).");
        SeatCast alike = e.told("house 1 4;one3 0 0;one2 0 0;one1 0 0;one0 0 0;");
        e.calls(alike, "best(10) = 0", "best(11) = 1", "best(12) = 2", "best(13) = 3",
                "one(0, 0) = 3", "sit(1, NONE) = 2", "best(10) = 0", "best(11) = NONE",
                "best(12) = 1", "best(13) = 2");
        // only seat 1 speaks: 1 sits there, for 0 in seat 0 is ahead of 0 in seat 1
        SeatCast x = e.told("house 1 3;part1 0;one2 0 0;one1 0 0;line0;");
        e.calls(x, "best(0) = 1", "best(10) = 0", "best(11) = 1", "comes(1, 1) = 0",
                "best(10) = 1", "best(11) = 0");
        // none is better than another: the first of all, not the one that is now
        e.calls(e.told("house 1 3;one2 0 0;line0;"), "best(0) = 0", "best(10) = 0");
        e.calls(e.told("house 3 4;part11 0;one0 0 0;line0;"), "best(10) = 11");
        // all seats speak line 0, and none line 1
        SeatCast y = e.told("house 1 3;part0 0;part1 0;part2 0;one2 0 0;one1 0 0;line0;line1;");
        e.calls(y, "best(0) = 1", "best(10) = 0", "best(11) = 1", "sit(1, NONE) = 1",
                "best(0) = 1", "best(10) = 0", "best(11) = NONE", "one(0, 0) = 2");
        e.sentence(23, "BAD.");
        for (int n = 1; n <= 9; n++) {
            e.calls(alike, "best(" + n + ") = BAD");
        }
        e.calls(alike, "best(14) = BAD", "best(-1) = BAD", "best(NONE) = BAD", "best(-10) = BAD",
                "best(MIN) = BAD", "best(MAX) = BAD", "best(-2147483639) = BAD",
                "best(-2147483638) = BAD");
        e.calls(x, "best(12) = BAD", "best(13) = BAD");
        e.calls(new SeatCast(), "best(10) = BAD");
    }

    private static void change(Edges e) {
        e.sentence(24, "Two PEOPLE by whose swap() most LINES are SPOKEN, more than now: "
                + "10 times the lesser one and the greater one, "
                + "of several the least (what 0), how many (1).");
        // 2, who comes too late, sits where line 0 is spoken: either of the others may come for him
        SeatCast x = e.told("house 1 3;soft;part0 0;part1 1;part2 2;one2 5 0;one1 5 0;one0 5 9;"
                + "line0;");
        e.calls(x, "change(0) = 2", "change(1) = 1", "one(0, 0) = 2", "one(2, 0) = 0",
                "comes(0, 1) = 0", "change(0) = 12", "change(1) = 1");
        // most, not the first that is more: 0 would leave line 1
        SeatCast y = e.told("house 1 3;soft;part0 0;part2 2;one2 5 0;one1 5 0;one0 5 9;"
                + "line0;line2;scene0;");
        e.calls(y, "night(0) = 1", "change(0) = 12", "change(1) = 3", "night(0) = 1");
        // the last pair of four
        e.calls(e.told("house 1 4;part3 0;one0 0 9;one1 0 9;one2 0 0;one3 0 9;line0;"),
                "change(0) = 23", "change(1) = 1");
        // with one who is away
        e.calls(e.told("house 1 2;part0 0;one0 0 9;one1 0 9;away0 0;line0;"), "change(0) = 2",
                "change(1) = 1");
        e.calls(e.told("house 1 2;part0 0;away0 0;one0 0 9;line0;"), "change(0) = 1",
                "change(1) = 1");
    }

    private static void changeNone(Edges e) {
        e.sentence(24, "BAD; NONE: by none.");
        SeatCast same = e.told("house 1 2;part0 0;one0 0 0;one1 0 0;line0;");
        e.calls(same, "night(0) = 1", "change(0) = NONE", "change(1) = NONE");
        e.calls(new SeatCast(), "change(0) = NONE", "change(1) = NONE");
        e.calls(e.told("house 1 2;part0 0;one1 0 0;line0;"), "change(0) = NONE",
                "change(1) = NONE");
        e.calls(e.told("part0 0;away0 0;away0 0;line0;"), "change(0) = NONE", "change(1) = NONE");
        // less than now
        e.calls(e.told("house 1 2;part0 0;one0 0 0;one1 0 9;line0;"), "change(0) = NONE",
                "change(1) = NONE");
        for (String what : NO_WHAT) {
            e.calls(same, "change(" + what + ") = BAD");
            e.calls(new SeatCast(), "change(" + what + ") = BAD");
        }
    }

    private static void role(Edges e) {
        e.sentence(25, "The PART of a SEAT by which most LINES are SPOKEN, "
                + "of several the least (what 0), how many (1).");
        SeatCast x = e.told("house 1 2;soft;one0 5 0;line5;line4;line4;line5;line5;");
        e.calls(x, "role(0, 0) = 5", "role(0, 1) = 3", "seat(0, 0) = NONE", "night(0) = 0",
                // nobody sits there: all are alike, and the least is 0
                "role(1, 0) = 0", "role(1, 1) = 0", "comes(0, 1) = 0", "role(0, 0) = 4",
                "role(0, 1) = 2", "comes(0, 5) = 1", "role(0, 0) = 0", "role(0, 1) = 0");
        for (int k = 0; k <= 5; k++) {
            e.calls(e.told("house 1 2;part1 3;one1 5 0;line" + k + ";"), "role(1, 0) = " + k,
                    "role(1, 1) = 1", "seat(1, 0) = 3");
        }
        // as it is now is one of them: by any other part less is spoken
        e.calls(e.told("house 1 2;part0 2;one0 0 0;line2;"), "role(0, 0) = 2", "role(0, 1) = 1",
                "role(1, 0) = 0", "role(1, 1) = 1");
        e.calls(e.told("house 3 4;one11 0 0;line1;"), "role(11, 0) = 1", "role(11, 1) = 1");
        e.calls(new SeatCast(), "role(5, 0) = 0", "role(5, 1) = 0");
        e.sentence(25, "BAD.");
        for (String s : new String[] {"2", "-1", "NONE", "MIN", "MAX"}) {
            e.calls(x, "role(" + s + ", 0) = BAD", "role(" + s + ", 1) = BAD");
        }
        for (String what : NO_WHAT) {
            e.calls(x, "role(0, " + what + ") = BAD");
        }
    }

    private static void cut(Edges e) {
        e.sentence(26, "The fewest LINES to be cut");
        SeatCast x = e.told("house 1 2;part0 0;one0 5 0;line0;line1;line0;line1;line0;");
        e.calls(x, "cut(0) = 2", "cut(1) = 10", "night(0) = 1", "rule(3) = 5", "law(1) = 0",
                "cut(0) = 2", "cut(1) = 10");
        e.calls(new SeatCast(), "cut(0) = 0", "cut(1) = 0");
        // none to be cut, and all of them
        SeatCast y = e.told("house 1 2;part0 0;one0 5 0;line0;line0;line0;line0;line0;line0;line0;"
                + "line0;");
        e.calls(y, "cut(0) = 0", "cut(1) = 0", "sit(0, NONE) = 0", "cut(0) = 8", "cut(1) = 255");
        e.sentence(26, "so that all others are SPOKEN: how many (what 0), "
                + "the least set of so many (1; bits).");
        // either of the two
        SeatCast z = e.told("house 1 2;part0 0;part1 1;one0 0 0;one1 0 0;line0;line1;");
        e.calls(z, "cut(0) = 1", "cut(1) = 1", "voice(0, 1) = 0", "cut(0) = 0", "cut(1) = 0");
        // {0, 2} is 5, {1} is 2: the fewest, though not the least of all; then {2, 3} and {0, 1}
        SeatCast w = e.told("house 1 3;part0 0;part1 1;one0 0 0;one1 0 0;line0;line1;line0;");
        e.calls(w, "cut(0) = 1", "cut(1) = 2");
        SeatCast v = e.told("house 1 3;part0 0;part1 1;one0 0 0;one1 0 0;line0;line0;line1;line1;");
        e.calls(v, "cut(0) = 2", "cut(1) = 3");
        e.sentence(26, "BAD.");
        for (String what : NO_WHAT) {
            e.calls(x, "cut(" + what + ") = BAD");
        }
    }

    private static void cutNumbers(Edges e) {
        e.sentence(26, "(as if they were not there, but those that are left keep their numbers, "
                + "for COMES, too;");
        // 1 has come by line 1, though it is the first that is left
        SeatCast x = e.told("house 1 2;part1 1;one1 0 1;line0;line1;");
        e.calls(x, "cut(0) = 1", "cut(1) = 1", "comes(0, 2) = 1", "cut(0) = 2", "cut(1) = 3");
        // as if it were not there: 2 answers 0, whom he feuds with or does not hear
        SeatCast y = e.told("house 1 3;part0 0;part2 2;one0 5 0;one2 5 0;line0;line1;line2;");
        e.calls(y, "cut(0) = 1", "cut(1) = 2", "feud(1, 0, true) = 0", "cut(0) = 2",
                "cut(1) = 3", "feud(1, 0, false) = 1", "voice(0, 1) = 5", "cut(0) = 2",
                "cut(1) = 3", "law(1) = 0", "cut(0) = 2", "cut(1) = 3", "voice(0, 2) = 1",
                "cut(0) = 1", "cut(1) = 2");
    }

    private static void cutScenes(Edges e) {
        e.sentence(26, "where one that OPENS a SCENE is, the next one of it left OPENS it)");
        // 1 feuds with 0, who has the line ahead
        String people = "house 1 3;part0 0;part1 1;one0 5 0;one1 5 0 0;";
        SeatCast x = e.told(people + "line0;scene2;line1;");
        e.calls(x, "cut(0) = 1", "cut(1) = 2", "opens(1, false) = 1", "cut(0) = 2", "cut(1) = 3");
        // two cut one behind another
        SeatCast y = e.told(people + "line0;scene2;line2;line1;");
        e.calls(y, "cut(0) = 2", "cut(1) = 6", "opens(1, false) = 1", "cut(0) = 3", "cut(1) = 7");
        // a scene that is cut whole
        SeatCast z = e.told(people + "line2;scene0;line1;");
        e.calls(z, "cut(0) = 2", "cut(1) = 3", "opens(2, true) = 0", "cut(0) = 1", "cut(1) = 1");
        // the first of all is cut
        e.calls(e.told(people + "line2;line1;line1;"), "cut(0) = 1", "cut(1) = 1");
    }

    private static void louder(Edges e) {
        e.sentence(27, "The least VOICE of a ONE by which more LINES are SPOKEN than now (what 0), "
                + "how many (1).");
        for (int t = 1; t < 12; t++) {
            SeatCast x = e.told("house 3 4;part0 0;part" + t + " 1;one0 0 0;one" + t
                    + " 0 0;line0;line1;");
            e.calls(x, "louder(0, 0) = " + (t / 4 + t % 4), "louder(0, 1) = 2", "one(0, 1) = 0",
                    "louder(1, 0) = NONE", "louder(1, 1) = NONE");
        }
        // the least by which it is more, not the one by which it is most
        SeatCast y = e.told("house 1 4;part0 0;part1 1;part3 2;one0 0 0;one1 0 0;one3 0 0;"
                + "line0;line1;scene0;line2;");
        e.calls(y, "night(0) = 2", "louder(0, 0) = 1", "louder(0, 1) = 3", "voice(0, 1) = 0",
                "louder(0, 0) = 3", "louder(0, 1) = 4", "voice(0, 3) = 1", "louder(0, 0) = NONE",
                "voice(0, 5) = 3", "louder(0, 0) = NONE", "louder(0, 1) = NONE");
        // a lesser one than now: 1 no longer hears, and 2 speaks behind the silence
        SeatCast z = e.told("soft;part0 0;part1 1;part2 2;part3 1;house 1 4;one0 5 0;one1 5 0 2;"
                + "one2 5 0 1;one3 5 0;line0;line1;line2;line1;line2;");
        e.calls(z, "night(0) = 3", "louder(0, 0) = 0", "louder(0, 1) = 4");
        e.sentence(27, "BAD; NONE: by none.");
        e.calls(y, "louder(2, 0) = NONE", "louder(2, 1) = NONE", "sit(0, NONE) = 0",
                "louder(0, 0) = NONE", "louder(0, 1) = NONE", "louder(3, 0) = BAD",
                "louder(-1, 0) = BAD", "louder(NONE, 1) = BAD", "louder(MIN, 0) = BAD",
                "louder(MAX, 0) = BAD");
        for (String what : NO_WHAT) {
            e.calls(y, "louder(2, " + what + ") = BAD");
        }
        e.calls(new SeatCast(), "louder(0, 0) = BAD");
        e.calls(e.told("away0 0;"), "louder(0, 0) = NONE", "louder(0, 1) = NONE");
    }

    private static void peace(Edges e) {
        e.sentence(28, "The FEUD whose end makes most LINES SPOKEN, more than now: "
                + "10 times who FEUDS and with whom, of several the least (what 0), how many (1).");
        // 1 feuds with 0 by line 1, 0 with 1 by line 3
        SeatCast x = e.told("house 1 2;part0 0;part1 1;one0 5 0 1;one1 5 0 0;"
                + "line0;line1;scene1;line0;");
        e.calls(x, "night(0) = 2", "peace(0) = 1", "peace(1) = 3", "feud(0, 1, false) = 1",
                "peace(0) = 10", "peace(1) = 4", "one(1, 3) = 1", "night(0) = 3");
        // most, not the first that is more
        SeatCast y = e.told("house 1 2;part0 0;part1 1;one0 5 0 1;one1 5 0 0;"
                + "line0;line1;line1;scene1;line0;");
        e.calls(y, "night(0) = 2", "peace(0) = 10", "peace(1) = 4", "feud(1, 0, false) = 1",
                "peace(0) = 1", "peace(1) = 5");
        // with himself; the least and the last of all that may be
        e.calls(e.told("house 1 2;part0 0;one0 5 0 0;line0;line0;"), "peace(0) = 0",
                "peace(1) = 2");
        e.calls(e.told("house 1 2;part0 0;away0 0;away0 0;away0 0;one0 5 0 3;line0;line0;"),
                "peace(0) = 33", "peace(1) = 2");
        e.sentence(28, "BAD; NONE: by none.");
        // none at all; those that do not matter
        SeatCast two = e.told("house 1 3;part0 0;part1 1;part2 1;one0 5 0;one1 5 0;line0;line1;");
        e.calls(two, "peace(0) = NONE", "peace(1) = NONE", "feud(0, 1, true) = 0",
                "feud(1, 1, true) = 0", "peace(0) = NONE", "peace(1) = NONE",
                "sit(0, NONE) = 0", "feud(1, 0, true) = 0", "peace(0) = NONE",
                "peace(1) = NONE");
        e.calls(new SeatCast(), "peace(0) = NONE", "peace(1) = NONE");
        e.calls(e.told("away0 0 0 1;away0 0 0 1;"), "peace(0) = NONE");
        for (String what : NO_WHAT) {
            e.calls(x, "peace(" + what + ") = BAD");
            e.calls(new SeatCast(), "peace(" + what + ") = BAD");
        }
    }
}
