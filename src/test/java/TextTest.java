/** Promises 1 to 9: a new object, the tape, the text and what it tells. */
final class TextTest {
    private static final Due DUE = new Due("TextTest");

    private static final String PLAY = "house 2 3;part 0 0;part 2 1;part 3 2;part 5 1;one 0 1 0 1;"
            + "one 2 3 0;one 3 2 1 0;line 0;line 1;line 2;scene 1;line 0;line 2;";

    public static void main(String[] args) {
        newObject();
        feed();
        end();
        textTellsAll();
        textInPlaceOfWhatWas();
        textRefusedChangesNothing();
        tokens();
        faultOfTokens();
        faultOfPlaces();
        faultOfBounds();
        faultOfTwice();
        faultOfTooMany();
        faultOfWhatIsNotThere();
        faultsInOrder();
        rule();
        seat();
        one();
        line();
        DUE.close();
    }

    private static void newObject() {
        SeatCast x = new SeatCast();
        int[] rules = {2, 3, 0, 0, 0};
        for (int what = 0; what < rules.length; what++) {
            DUE.due(1, "rule(" + what + ")", x.rule(what), rules[what]);
        }
        for (int s = 0; s < 6; s++) {
            DUE.due(1, "seat(" + s + ", 0)", x.seat(s, 0), SeatCast.NONE);
            DUE.due(1, "seat(" + s + ", 1)", x.seat(s, 1), SeatCast.NONE);
        }
        DUE.due(1, "seat(6, 0)", x.seat(6, 0), SeatCast.BAD);
        DUE.due(1, "one(0, 0)", x.one(0, 0), SeatCast.BAD);
        DUE.due(1, "line(0, 0)", x.line(0, 0), SeatCast.BAD);
        int[] counts = {0, 0, 0, 0, 0, SeatCast.NONE, 0};
        for (int what = 0; what < counts.length; what++) {
            DUE.due(1, "count(" + what + ")", x.count(what), counts[what]);
        }
        for (int k = 0; k < 4; k++) {
            DUE.due(1, "lay(" + k + ", 0, 1)", x.lay(k, 0, 1), -11);
        }
        DUE.due(1, "back(0)", x.back(0), SeatCast.STATE);
        DUE.due(1, "back(1)", x.back(1), SeatCast.STATE);
        DUE.due(1, "fault()", x.fault(), 0);
        DUE.due(1, "torn()", x.torn(), 0);
        DUE.due(1, "night(0)", x.night(0), 0);
    }

    private static void feed() {
        SeatCast x = new SeatCast();
        DUE.due(2, "feed(-1)", x.feed(-1), SeatCast.BAD);
        DUE.due(2, "feed(128)", x.feed(128), SeatCast.BAD);
        DUE.due(2, "feed(MIN)", x.feed(Integer.MIN_VALUE), SeatCast.BAD);
        DUE.due(2, "count(4)", x.count(4), 0);
        DUE.due(2, "feed(0)", x.feed(0), 1);
        DUE.due(2, "feed(127)", x.feed(127), 2);
        for (int n = 3; n <= 160; n++) {
            DUE.due(2, "feed(32)", x.feed(32), n);
        }
        DUE.due(2, "feed(32), the 161st", x.feed(32), SeatCast.FULL);
        DUE.due(2, "feed(128), full", x.feed(128), SeatCast.BAD);
        DUE.due(2, "count(4)", x.count(4), 160);
        DUE.due(2, "text()", x.text(), -10);
        DUE.due(2, "feed(32), emptied", x.feed(32), 1);
    }

    private static void end() {
        SeatCast x = new SeatCast();
        DUE.due(3, "end(0)", x.end(0), 0);
        DUE.due(3, "end(1), empty", x.end(1), SeatCast.BAD);
        DUE.due(3, "end(-1)", x.end(-1), SeatCast.BAD);
        for (int n = 0; n < 8; n++) {
            x.feed("soft;xyz".charAt(n));
        }
        DUE.due(3, "end(9)", x.end(9), SeatCast.BAD);
        DUE.due(3, "end(-1)", x.end(-1), SeatCast.BAD);
        DUE.due(3, "end(8)", x.end(8), 8);
        DUE.due(3, "end(6)", x.end(6), 8);
        DUE.due(3, "end(8)", x.end(8), SeatCast.BAD);
        DUE.due(3, "end(5)", x.end(5), 6);
        DUE.due(3, "count(4)", x.count(4), 5);
        DUE.due(3, "text()", x.text(), 1);
        DUE.due(3, "rule(4)", x.rule(4), 1);
        DUE.due(3, "end(0)", x.end(0), 0);
    }

    private static void textTellsAll() {
        SeatCast x = new SeatCast();
        DUE.due(4, "text() of a play", Due.tell(x, PLAY), 14);
        DUE.due(4, "count(4)", x.count(4), 0);
        int[] rules = {2, 3, 3, 6, 0};
        for (int what = 0; what < rules.length; what++) {
            DUE.due(4, "rule(" + what + ")", x.rule(what), rules[what]);
        }
        int[] parts = {0, SeatCast.NONE, 1, 2, SeatCast.NONE, 1};
        for (int s = 0; s < parts.length; s++) {
            DUE.due(4, "seat(" + s + ", 0)", x.seat(s, 0), parts[s]);
        }
        int[][] people = {{0, 1, 0, 2}, {2, 3, 0, 0}, {3, 2, 1, 1}};
        for (int p = 0; p < people.length; p++) {
            for (int what = 0; what < 4; what++) {
                DUE.due(4, "one(" + p + ", " + what + ")", x.one(p, what), people[p][what]);
            }
        }
        int[][] lines = {{0, 1}, {1, 0}, {2, 0}, {1, 1}, {0, 0}, {2, 0}};
        for (int i = 0; i < lines.length; i++) {
            DUE.due(4, "line(" + i + ", 0)", x.line(i, 0), lines[i][0]);
            DUE.due(4, "line(" + i + ", 1)", x.line(i, 1), lines[i][1]);
        }
    }

    private static void textInPlaceOfWhatWas() {
        SeatCast x = Due.told(PLAY);
        x.law(1);
        x.see(0, 0);
        x.keep(0);
        x.keep(1);
        x.sheet(0, 1, 5);
        x.read(1, 0, 0, 1);
        DUE.due(4, "text(), empty", x.text(), 0);
        int[] rules = {2, 3, 0, 0, 0};
        for (int what = 0; what < rules.length; what++) {
            DUE.due(4, "rule(" + what + ")", x.rule(what), rules[what]);
        }
        DUE.due(4, "seat(0, 0)", x.seat(0, 0), SeatCast.NONE);
        DUE.due(4, "count(1)", x.count(1), 0);
        DUE.due(4, "count(6)", x.count(6), 0);
        DUE.due(4, "count(2), nothing is seen", x.count(2), 0);
        DUE.due(4, "count(3), images are gone", x.count(3), 0);
        DUE.due(4, "back(0)", x.back(0), SeatCast.STATE);
        DUE.due(4, "back(1)", x.back(1), SeatCast.STATE);
        DUE.due(4, "count(5), sheets stay", x.count(5), 5);
        DUE.due(43, "torn(), a text leaves it", x.torn(), 1);
        DUE.due(4, "text()", Due.tell(x, "house 3 4;soft;away 1 2 0;scene 5;"), 4);
        DUE.due(4, "one(0, 0)", x.one(0, 0), SeatCast.NONE);
        DUE.due(4, "one(0, 1)", x.one(0, 1), 1);
        DUE.due(4, "one(0, 2)", x.one(0, 2), 2);
        DUE.due(4, "one(0, 3)", x.one(0, 3), 1);
        DUE.due(4, "seat(11, 0)", x.seat(11, 0), SeatCast.NONE);
        DUE.due(4, "text(), what it does not tell is as at first", Due.tell(x, "line 4;"), 1);
        DUE.due(4, "rule(0)", x.rule(0), 2);
        DUE.due(4, "rule(1)", x.rule(1), 3);
        DUE.due(4, "rule(2)", x.rule(2), 0);
        DUE.due(4, "rule(4)", x.rule(4), 0);
        DUE.due(4, "line(0, 1), the first one opens", x.line(0, 1), 1);
        DUE.due(4, "text()", Due.tell(x, "soft;scene 1;scene 2;part 0 0;"), 4);
        DUE.due(4, "text(), what the one ahead told is not told", Due.tell(x,
                "soft;line 1;line 2;part 0 1;"), 4);
        DUE.due(4, "line(1, 1)", x.line(1, 1), 0);
    }

    private static void textRefusedChangesNothing() {
        SeatCast x = Due.told(PLAY);
        x.see(0, 0);
        x.keep(1);
        DUE.due(4, "text() with a fault", Due.tell(x, "soft;house 1 2;part 0 5;line 5;x"), -41);
        DUE.due(5, "fault()", x.fault(), 2);
        DUE.due(4, "count(4), empty by a fault, too", x.count(4), 0);
        DUE.due(4, "rule(0)", x.rule(0), 2);
        DUE.due(4, "rule(4)", x.rule(4), 0);
        DUE.due(4, "rule(3)", x.rule(3), 6);
        DUE.due(4, "seat(0, 0)", x.seat(0, 0), 0);
        DUE.due(4, "count(2)", x.count(2), 1);
        DUE.due(4, "count(3)", x.count(3), 1);
        DUE.due(5, "text()", x.text(), 0);
        DUE.due(5, "fault(), none by the latest", x.fault(), 0);
    }

    private static void tokens() {
        taken("", 0);
        taken("    ", 0);
        taken("house2 3;part0 0;one0 1 2;soft;", 4);
        taken("  soft  ;  ", 1);
        taken("line0;scene1;line 2 ;", 3);
        taken("house 02 03;line 00;away 05 09 03 00;away0 0;away0 0;away0 0;", 6);
        taken("one 0 0 0 0;", 1);
        taken("part 11 5;house 3 4;one 11 5 9;", 3);
        taken("away 0 0 1;away 0 0 1;", 2);
        taken("away 0 0 3 2 1 0;away 0 0;away 0 0;away 0 0;", 4);
        taken("part 0 1;part 1 1;", 2);
        taken("house 1 2;", 1);
        taken("house 3 4;", 1);
        taken("line 0;line 0;line 0;line 0;line 0;line 0;line 0;line 0;", 8);
        String blanks = " ".repeat(155);
        taken(blanks + "soft;", 1);
        taken(blanks + "     ", 0);
        SeatCast x = Due.told("house 03 04;one 11 05 09;");
        DUE.due(4, "rule(0), two figures", x.rule(0), 3);
        DUE.due(4, "rule(1), two figures", x.rule(1), 4);
        DUE.due(4, "one(0, 0), two figures", x.one(0, 0), 11);
    }

    private static void faultOfTokens() {
        refused("#", 1, 0);
        refused("  Soft;", 1, 2);
        refused("soft.;", 1, 4);
        refused("soft;#", 1, 5);
        refused("line\t0;", 1, 4);
        refused("line -1;", 1, 5);
        refused("line 100;", 1, 5);
        refused("line 000;", 1, 5);
        refused("part 0 1234567890123;", 1, 7);
        refused("123 house", 1, 0);
        refused("part 0 0;?", 1, 9);
        refused("one 0 0 0 111;", 1, 10);
        refused("`oft;", 1, 0);
        refused("{oft;", 1, 0);
        refused("line /;", 1, 5);
        refused("line :;", 1, 5);
        refused("soft" + (char) 0, 1, 4);
        refused("soft" + (char) 127, 1, 4);
        refused("line 0<", 1, 6);
    }

    private static void faultOfPlaces() {
        refused(";", 2, 0);
        refused("soft;;", 2, 5);
        refused("5;", 2, 0);
        refused("2 3house;", 2, 0);
        refused("stage 1;", 2, 0);
        refused("lines 0;", 2, 0);
        refused("lin 0;", 2, 0);
        refused("softsoft;", 2, 0);
        refused("line", 2, 4);
        refused("line ", 2, 5);
        refused("line 0", 2, 6);
        refused("line 0  ", 2, 8);
        refused("line ;", 2, 5);
        refused("line x;", 2, 5);
        refused("line 0 0;", 2, 7);
        refused("soft 1;", 2, 5);
        refused("soft soft;", 2, 5);
        refused("part 0;", 2, 6);
        refused("one 0 0;", 2, 7);
        refused("one 0 0 0 x;", 2, 10);
        refused("one 0 0 0 1", 2, 11);
        refused("one 0 0 0", 2, 9);
        refused("one;", 2, 3);
        refused("away 0 ;", 2, 7);
        refused("house 2 2 2;", 2, 10);
        refused("house 2;", 2, 7);
        refused("scene scene", 2, 6);
        refused("bine 0;", 2, 0);
        refused("lone 0;", 2, 0);
        refused("hous 2 2;", 2, 0);
        String blanks = " ".repeat(154);
        refused(blanks + "  soft", 2, 160);
        refused(blanks + "line 0", 2, 160);
        refused(blanks + "scenes", 2, 154);
    }

    private static void faultOfBounds() {
        refused("house 0 2;", 3, 6);
        refused("house 4 2;", 3, 6);
        refused("house 1 1;", 3, 8);
        refused("house 1 5;", 3, 8);
        refused("part 12 0;", 3, 5);
        refused("part 99 0;", 3, 5);
        refused("part 0 6;", 3, 7);
        refused("one 12 0 0;", 3, 4);
        refused("one 0 6 0;", 3, 6);
        refused("one 0 0 10;", 3, 8);
        refused("one 0 0 0 4;", 3, 10);
        refused("one 0 0 0 0 4;", 3, 12);
        refused("away 6 0;", 3, 5);
        refused("away 0 10;", 3, 7);
        refused("away 0 0 4;", 3, 9);
        refused("line 6;", 3, 5);
        refused("scene 6;", 3, 6);
    }

    private static void faultOfTwice() {
        refused("house 2 2;house 2 2;", 4, 10);
        refused("soft;soft;", 4, 5);
        refused("part 0 0;part 0 1;", 4, 14);
        refused("part 00 0;part 0 0;", 4, 15);
        refused("part 0 0;part 1 0;part 0 0;", 4, 23);
        refused("one 0 0 0;away 0 0;one 1 0 0;one 0 0 0;", 4, 33);
        refused("one 1 0 0;one 1 0 0;", 4, 14);
        refused("one 0 0 0 1 1;", 4, 12);
        refused("away 0 0 3 2 3;", 4, 13);
        refused("away 0 0 0 1 2 3 0;", 4, 17);
    }

    private static void faultOfTooMany() {
        String four = "away 0 0;away 0 0;away 0 0;away 0 0;";
        refused(four + "one 0 0 0;", 5, 36);
        refused(four + "away 0 0;", 5, 36);
        refused("one 0 0 0;one 1 0 0;one 2 0 0;one 3 0 0;  one 4 0 0;", 5, 42);
        String eight = "line 0;line 0;line 0;line 0;line 0;line 0;line 0;line 0;";
        refused(eight + "line 0;", 5, 56);
        refused(eight + "scene 0;", 5, 56);
        refused("scene 0;" + eight, 5, 57);
    }

    private static void faultOfWhatIsNotThere() {
        refused("part 6 0;", 6, 9);
        refused("part 11 0; ", 6, 11);
        refused("one 6 0 0;", 6, 10);
        refused("away 0 0 1;", 6, 11);
        refused("house 1 2;part 2 0;", 6, 19);
        refused("part 2 0;house 1 2;", 6, 19);
        refused("away 0 0 3;away 0 0;away 0 0;", 6, 29);
        refused("house 3 3;one 9 0 0;", 6, 20);
    }

    /** What is met first, as it is read, counts. */
    private static void faultsInOrder() {
        refused("hous#", 2, 0);
        refused("house 4#", 3, 6);
        refused("house 2#", 1, 7);
        refused("part 6 0;#", 1, 9);
        refused("soft;soft#", 4, 5);
        refused("house 2 2;house#", 4, 10);
        refused("line 6#", 3, 5);
        refused("part 0 0;part 0#", 4, 14);
        refused("line 0 123;", 1, 7);
        refused("line 123", 1, 5);
        refused("away 0 0;away 0 0;away 0 0;away 0 0;one#", 5, 36);
        refused("part 6 0;part 6 0;", 4, 14);
        SeatCast x = new SeatCast();
        DUE.due(5, "text()", Due.tell(x, "#"), -10);
        DUE.due(5, "fault()", x.fault(), 1);
        DUE.due(5, "text()", Due.tell(x, "line 6;"), -15);
        DUE.due(5, "fault(), the latest one's", x.fault(), 3);
        x.feed('#');
        DUE.due(5, "fault(), a feed leaves it", x.fault(), 3);
    }

    private static void taken(String text, int lines) {
        SeatCast x = new SeatCast();
        DUE.due(4, "text() of '" + text + "'", Due.tell(x, text), lines);
        DUE.due(5, "fault() of '" + text + "'", x.fault(), 0);
    }

    private static void refused(String text, int fault, int place) {
        SeatCast x = new SeatCast();
        DUE.due(4, "text() of '" + text + "'", Due.tell(x, text), -10 - place);
        DUE.due(5, "fault() of '" + text + "'", x.fault(), fault);
    }

    private static void rule() {
        SeatCast x = Due.told("house 3 2;soft;away 0 0;line 0;line 0;");
        int[] rules = {3, 2, 1, 2, 1};
        for (int what = 0; what < rules.length; what++) {
            DUE.due(6, "rule(" + what + ")", x.rule(what), rules[what]);
        }
        DUE.due(6, "rule(-1)", x.rule(-1), SeatCast.BAD);
        DUE.due(6, "rule(5)", x.rule(5), SeatCast.BAD);
    }

    private static void seat() {
        SeatCast x = Due.told("house 1 4;part 3 5;one 3 0 0;one 0 0 0;");
        DUE.due(7, "seat(3, 0)", x.seat(3, 0), 5);
        DUE.due(7, "seat(3, 1)", x.seat(3, 1), 0);
        DUE.due(7, "seat(0, 0)", x.seat(0, 0), SeatCast.NONE);
        DUE.due(7, "seat(0, 1)", x.seat(0, 1), 1);
        DUE.due(7, "seat(1, 1)", x.seat(1, 1), SeatCast.NONE);
        DUE.due(7, "seat(4, 0)", x.seat(4, 0), SeatCast.BAD);
        DUE.due(7, "seat(-1, 1)", x.seat(-1, 1), SeatCast.BAD);
        DUE.due(7, "seat(-4, 0)", x.seat(-4, 0), SeatCast.BAD);
        DUE.due(7, "seat(0, 2)", x.seat(0, 2), SeatCast.BAD);
        DUE.due(7, "seat(0, -1)", x.seat(0, -1), SeatCast.BAD);
    }

    private static void one() {
        SeatCast x = Due.told("one 5 4 9 1 0;away 3 7;");
        int[] first = {5, 4, 9, 3};
        int[] second = {SeatCast.NONE, 3, 7, 0};
        for (int what = 0; what < 4; what++) {
            DUE.due(8, "one(0, " + what + ")", x.one(0, what), first[what]);
            DUE.due(8, "one(1, " + what + ")", x.one(1, what), second[what]);
        }
        DUE.due(8, "one(2, 0)", x.one(2, 0), SeatCast.BAD);
        DUE.due(8, "one(-1, 0)", x.one(-1, 0), SeatCast.BAD);
        DUE.due(8, "one(0, 4)", x.one(0, 4), SeatCast.BAD);
        DUE.due(8, "one(0, -1)", x.one(0, -1), SeatCast.BAD);
    }

    private static void line() {
        SeatCast x = Due.told("scene 5;line 3;scene 1;");
        int[][] lines = {{5, 1}, {3, 0}, {1, 1}};
        for (int i = 0; i < lines.length; i++) {
            DUE.due(9, "line(" + i + ", 0)", x.line(i, 0), lines[i][0]);
            DUE.due(9, "line(" + i + ", 1)", x.line(i, 1), lines[i][1]);
        }
        DUE.due(9, "line(3, 0)", x.line(3, 0), SeatCast.BAD);
        DUE.due(9, "line(-1, 0)", x.line(-1, 0), SeatCast.BAD);
        DUE.due(9, "line(0, 2)", x.line(0, 2), SeatCast.BAD);
        DUE.due(9, "line(0, -1)", x.line(0, -1), SeatCast.BAD);
    }
}
