/** Terms: the tape and its faults; promises 2 to 9. */
final class EdgeText {
    private static final String FOUR = "away0 0;away0 0;away0 0;away0 0;";
    private static final String EIGHT = "line0;line0;line0;line0;line0;line0;line0;line0;";

    private EdgeText() {
    }

    static void check(Edges e) {
        tape(e);
        blanks(e);
        tokens(e);
        shapes(e);
        whatLinesTell(e);
        noToken(e);
        misplaced(e);
        outOfBounds(e);
        toldTwice(e);
        tooMany(e);
        notThere(e);
        firstMet(e);
        inPlace(e);
        feed(e);
        end(e);
        text(e);
        fault(e);
        asked(e);
    }

    private static void tape(Edges e) {
        e.sentence(0, "THE TAPE has 160 bytes, places from 0.");
        SeatCast x = new SeatCast();
        for (int n = 1; n <= 160; n++) {
            e.calls(x, "feed(32) = " + n);
        }
        e.calls(x, "feed(32) = FULL", "count(4) = 160", "end(159) = 160", "feed(35) = 160",
                "feed(35) = FULL", "text() = -169", "count(4) = 0");
        e.refused("#", 1, 0);
        e.taken(" ".repeat(155) + "soft;", 1);
        e.refused(" ".repeat(156) + "soft", 2, 160);
    }

    private static void blanks(Edges e) {
        e.sentence(0, "blanks (32) ahead, between, behind, as many as wanted");
        e.taken("", 0);
        e.taken(" ", 0);
        e.taken(" ".repeat(160), 0);
        e.taken("   soft   ;   ", 1);
        SeatCast x = e.taken("  one   3    5  9   0    ;  part 3 2 ;", 2);
        e.calls(x, "one(0, 0) = 3", "one(0, 1) = 5", "one(0, 2) = 9", "one(0, 3) = 1",
                "seat(3, 0) = 2");
        for (int c : new int[] {0, 9, 10, 13, 31, 33, 127}) {
            e.refused((char) c + "soft;", 1, 0);
            e.refused("soft" + (char) c + ";", 1, 4);
            e.refused("soft;" + (char) c, 1, 5);
            e.refused("line" + (char) c + "0;", 1, 4);
        }
        e.sentence(0, "(at least one between two NAMES, between two NUMBERS; else none is needed)");
        e.taken("house2 3;part0 0;one0 1 2 0;line0;scene1;away0 0;soft;", 7);
        e.refused("part00;", 2, 6);
        e.refused("house23;", 3, 5);
        e.refused("linescene0;", 2, 0);
        e.refused("line scene0;", 2, 5);
        e.refused("part0 000;", 1, 6);
    }

    private static void tokens(Edges e) {
        e.sentence(0, "TOKENS, each as long as may be");
        e.refused("softer;", 2, 0);
        e.refused("softsoft;", 2, 0);
        e.refused("sof t;", 2, 0);
        e.refused("line 123;", 1, 5);
        e.refused("part 12 0;", 3, 5);
        e.calls(e.taken("one 05 00 09 03 1;away0 0;away0 0;away0 0;", 4), "one(0, 0) = 5",
                "one(0, 2) = 9", "one(0, 3) = 10");
        e.sentence(0, "NAMES (a .. z)");
        e.refused("a", 2, 0);
        e.refused("z", 2, 0);
        e.refused("Soft;", 1, 0);
        e.refused("softT;", 1, 4);
        e.refused("sofT;", 2, 0);
        e.refused("`", 1, 0);
        e.refused("{", 1, 0);
        e.refused("@", 1, 0);
        e.refused("soft_;", 1, 4);
        e.sentence(0, "NUMBERS (1 or 2 figures)");
        e.taken("line0;line00;line5;line05;", 4);
        e.taken("part9 0;house3 4;", 2);
        e.calls(e.taken("house3 4;part11 0;part09 1;one10 0 09;", 4), "seat(11, 0) = 0",
                "seat(9, 0) = 1", "one(0, 0) = 10", "one(0, 2) = 9");
        e.refused("line000;", 1, 4);
        e.refused("line/;", 1, 4);
        e.refused("line:;", 1, 4);
        e.refused("line-1;", 1, 4);
        e.refused("line+1;", 1, 4);
        e.refused("line" + "0".repeat(150) + ";", 1, 4);
        e.refused("line4294967296;", 1, 4);
        e.sentence(0, "the sign ; (a point is none)");
        e.refused("soft.", 1, 4);
        e.refused("soft;.", 1, 5);
        e.refused(".", 1, 0);
        e.refused("line1.0;", 1, 5);
        e.refused("soft,", 1, 4);
        e.refused("soft:", 1, 4);
        e.refused("soft<", 1, 4);
        e.refused("line:", 1, 4);
    }

    private static void shapes(Edges e) {
        e.sentence(0, "text: { line }");
        e.taken("", 0);
        e.taken("soft;", 1);
        e.taken("soft;line0;", 2);
        e.refused(";", 2, 0);
        e.refused("soft;;", 2, 5);
        e.refused("0", 2, 0);
        e.refused("soft;0;", 2, 5);
        e.sentence(0, "line: house N N ;");
        shape(e, "house", 2, 2, "2");
        e.sentence(0, "| part N N ;");
        shape(e, "part", 2, 2, "2");
        e.sentence(0, "| one N N N { N } ;");
        shape(e, "one", 3, 4, "0");
        e.sentence(0, "| away N N { N } ;");
        shape(e, "away", 2, 3, "0");
        e.sentence(0, "| line N ;");
        shape(e, "line", 1, 1, "2");
        e.sentence(0, "| scene N ;");
        shape(e, "scene", 1, 1, "2");
        e.sentence(0, "| soft ;");
        shape(e, "soft", 0, 0, "0");
    }

    /** A line of so many numbers, least and most; one less, one more, no sign, another token. */
    private static void shape(Edges e, String name, int least, int most, String number) {
        String text = name;
        for (int n = 0; n <= most; n++) {
            int length = text.length();
            if (n < least) {
                e.refused(text + ";", 2, length);
                e.refused(text + " ;soft;", 2, length + 1);
            } else {
                e.taken(text + ";", 1);
            }
            e.refused(text, 2, length);
            e.refused(text + "  ", 2, length + 2);
            e.refused(text + " soft;", 2, length + 1);
            text = text + " " + number;
        }
        // one number more than there may be: of the feuds it is the same one again
        e.refused(text + ";", least == most ? 2 : 4, text.length() - 1);
    }

    private static void whatLinesTell(Edges e) {
        e.sentence(0, "house: ROWS, PLACES.");
        e.calls(e.taken("house 3 2;", 1), "rule(0) = 3", "rule(1) = 2", "seat(5, 0) = NONE",
                "seat(6, 0) = BAD", "far(0, 5) = 3");
        e.sentence(0, "part: a SEAT (0 to 11), its PART.");
        e.calls(e.taken("house 3 4;part 0 5;part 11 0;", 3), "seat(0, 0) = 5", "seat(11, 0) = 0",
                "seat(5, 0) = NONE", "count(1) = 2");
        e.refused("house 3 4;part 12 0;", 3, 15);
        e.refused("house 3 4;part 99 0;", 3, 15);
        e.sentence(0, "one: a ONE more: SEAT, VOICE, with which LINE he COMES, "
                + "with whom he FEUDS (0 to 3).");
        e.calls(e.taken("one 4 3 2 1 0;one 5 2 1;", 2), "rule(2) = 2", "one(0, 0) = 4",
                "one(0, 1) = 3", "one(0, 2) = 2", "one(0, 3) = 3", "one(1, 0) = 5",
                "one(1, 1) = 2", "one(1, 2) = 1", "one(1, 3) = 0");
        e.calls(e.taken("one 0 0 0 3;away 0 0;away 0 0;away 0 0;", 4), "one(0, 3) = 8");
        e.refused("one 0 0 0 4;", 3, 10);
        e.sentence(0, "away: a ONE who is away more: VOICE, COMES, FEUDS.");
        e.calls(e.taken("away 3 9 0 2;one 0 0 0;away 5 0;", 3), "rule(2) = 3", "one(0, 0) = NONE",
                "one(0, 1) = 3", "one(0, 2) = 9", "one(0, 3) = 5", "one(2, 0) = NONE",
                "one(2, 1) = 5", "one(2, 2) = 0", "one(2, 3) = 0", "count(0) = 1");
        e.refused("away 0 0 4;", 3, 9);
        e.sentence(0, "line: a LINE more, its PART.");
        e.calls(e.taken("line 3;line 4;", 2), "rule(3) = 2", "line(0, 0) = 3", "line(1, 0) = 4",
                "line(1, 1) = 0");
        e.sentence(0, "scene: a LINE more that OPENS a SCENE.");
        e.calls(e.taken("line 3;scene 4;", 2), "rule(3) = 2", "line(1, 0) = 4", "line(1, 1) = 1");
        e.sentence(0, "soft: LAW is 1.");
        e.calls(e.taken("soft;", 1), "rule(4) = 1");
    }

    private static void noToken(Edges e) {
        e.sentence(0, "1 no TOKEN, a NUMBER that is too long (its first byte).");
        e.refused("?", 1, 0);
        e.refused("   ?", 1, 3);
        e.refused("soft ?;", 1, 5);
        e.refused("house ?", 1, 6);
        e.refused("house 2 ?", 1, 8);
        e.refused("house 2 2?", 1, 9);
        e.refused("part ?", 1, 5);
        e.refused("part 0 ?", 1, 7);
        e.refused("one 0 0 0 ?", 1, 10);
        e.refused("one 0 0 0 0?", 1, 11);
        e.refused("away ?", 1, 5);
        e.refused("scene ?", 1, 6);
        e.refused("   100;", 1, 3);
        e.refused("soft;  100;", 1, 7);
        e.refused("house 100 2;", 1, 6);
        e.refused("house 2 002;", 1, 8);
        e.refused("part 001 0;", 1, 5);
        e.refused("one 0 0 0 000;", 1, 10);
        e.refused("away 0 0 0 111;", 1, 11);
        e.refused("scene 000;", 1, 6);
        e.refused(" ".repeat(159) + "?", 1, 159);
    }

    private static void misplaced(Edges e) {
        e.sentence(0, "2 a TOKEN that can not stand there "
                + "(a NAME that begins no line; or the end: the length).");
        e.refused("stage 1;", 2, 0);
        e.refused("  lines 0;", 2, 2);
        e.refused("soft; hou 2 2;", 2, 6);
        e.refused("on 0 0 0;", 2, 0);
        e.refused("ones 0 0 0;", 2, 0);
        e.refused("awa 0 0;", 2, 0);
        e.refused("scen 0;", 2, 0);
        e.refused("sofa;", 2, 0);
        e.refused("pert 0 0;", 2, 0);
        e.refused("linf 0;", 2, 0);
        e.refused("wine 0;", 2, 0);
        e.refused("mouse 2 2;", 2, 0);
        e.refused("loft;", 2, 0);
        e.refused("line soft;", 2, 5);
        e.refused("part soft;", 2, 5);
        e.refused("one 0 soft;", 2, 6);
        e.refused("one 0 0 0 soft;", 2, 10);
        e.refused("house", 2, 5);
        e.refused("house   ", 2, 8);
        e.refused("soft;line 0", 2, 11);
        e.refused("soft;line 0     ", 2, 16);
        e.refused("one 0 0 0 1", 2, 11);
        e.refused(" ".repeat(154) + "line 0", 2, 160);
        e.refused("line 0" + " ".repeat(154), 2, 160);
    }

    private static void outOfBounds(Edges e) {
        e.sentence(0, "3 a NUMBER out of its bounds.");
        e.refused("house 0 2;", 3, 6);
        e.refused("house 4 2;", 3, 6);
        e.refused("house 2 1;", 3, 8);
        e.refused("house 2 5;", 3, 8);
        e.refused("part 12 0;", 3, 5);
        e.refused("part 0 6;", 3, 7);
        e.refused("one 12 0 0;", 3, 4);
        e.refused("one 0 6 0;", 3, 6);
        e.refused("one 0 0 10;", 3, 8);
        e.refused("one 0 0 0 4;", 3, 10);
        e.refused("one 0 0 0 0 1 2 3 4;", 3, 18);
        e.refused("away 6 0;", 3, 5);
        e.refused("away 0 10;", 3, 7);
        e.refused("away 0 0 4;", 3, 9);
        e.refused("away 0 0 3 99;", 3, 11);
        e.refused("line 6;", 3, 5);
        e.refused("scene 6;", 3, 6);
        e.refused("line  06;", 3, 6);
        e.taken("house 1 2;", 1);
        e.taken("house 3 4;part 11 5;one 11 5 9 0;away 5 9 1;line 5;scene 5;", 6);
    }

    private static void toldTwice(Edges e) {
        e.sentence(0, "4 house, soft for the second time (its NAME)");
        e.refused("house 2 3;house 2 3;", 4, 10);
        e.refused("house 2 3; line 0;  house 1 2;", 4, 20);
        e.refused("soft;soft;", 4, 5);
        e.refused("soft;line 0; soft;", 4, 13);
        e.refused("house 2 3;house", 4, 10);
        e.refused("soft;soft", 4, 5);
        e.sentence(0, "a SEAT of part told already");
        e.refused("part 0 0;part 0 0;", 4, 14);
        e.refused("part 5 1;part 4 1;part 05 2;", 4, 23);
        e.refused("part 11 1;part 11 2;", 4, 15);
        e.refused("part 0 0;part 0", 4, 14);
        e.taken("part 0 0;one 0 0 0;part 1 0;", 3);
        e.sentence(0, "a SEAT in which a ONE is already");
        e.refused("one 0 0 0;one 0 0 0;", 4, 14);
        e.refused("one 5 0 0;away 0 0;one 4 0 0;one 05 0 0;", 4, 33);
        e.refused("one 11 0 0;one 11 0 0;", 4, 15);
        e.refused("one 0 0 0;one 0", 4, 14);
        e.sentence(0, "one with whom he FEUDS told in this line already (it).");
        e.refused("one 0 0 0 0 0;", 4, 12);
        e.refused("one 0 0 0 3 2 1 0 3;", 4, 18);
        e.refused("away 0 0 1 2 01;", 4, 13);
        e.refused("away 0 0 3 3", 4, 11);
        e.taken("away 0 0 0;away 0 0 0;one 0 0 0 0;one 1 0 0 0;", 4);
    }

    private static void tooMany(Edges e) {
        e.sentence(0, "5 the 5th one (one, away)");
        e.taken(FOUR, 4);
        e.refused(FOUR + "away0 0;", 5, 32);
        e.refused(FOUR + "one0 0 0;", 5, 32);
        e.refused(FOUR + "  one", 5, 34);
        e.refused("one0 0 0;one1 0 0;away0 0;one2 0 0;away6", 5, 35);
        e.sentence(0, "the 9th line (line, scene: its NAME).");
        e.taken(EIGHT, 8);
        e.refused(EIGHT + "line0;", 5, 48);
        e.refused(EIGHT + "scene0;", 5, 48);
        e.refused(EIGHT + "   scene", 5, 51);
        e.refused("scene5;" + EIGHT, 5, 49);
        e.taken(EIGHT + FOUR + "soft;", 13);
    }

    private static void notThere(Edges e) {
        e.sentence(0, "Behind all (the length): 6 a SEAT, a ONE that there is not.");
        e.refused("part 6 0;", 6, 9);
        e.refused("part 6 0;   ", 6, 12);
        e.refused("one 6 0 0;", 6, 10);
        e.refused("away 0 0 1;", 6, 11);
        e.refused("one 0 0 0 1;", 6, 12);
        e.refused("away 0 0 3;away 0 0;away 0 0;", 6, 29);
        e.refused("part 2 0;house 1 2;", 6, 19);
        e.refused("house 1 2;one 2 0 0;", 6, 20);
        e.refused("house 3 3;part 9 0;", 6, 19);
        e.refused("house 2 4;part 8 0;part 0 0;", 6, 28);
        e.taken("part 5 0;one 5 0 0 0;", 2);
        e.taken("part 11 0;one 11 0 0;house 3 4;", 3);
        e.taken("away 0 0 3;away 0 0;away 0 0;away 0 0;", 4);
        e.taken("away 0 0 1;away 0 0 0;", 2);
    }

    private static void firstMet(Edges e) {
        e.sentence(0, "FAULTS, the first met as it is read "
                + "(a TOKEN is read when the one before has been taken)");
        e.refused("stage#", 2, 0);
        e.refused("house 4#", 3, 6);
        e.refused("house 2#", 1, 7);
        e.refused("house 2 5#", 3, 8);
        e.refused("house x#", 2, 6);
        e.refused("line 6#", 3, 5);
        e.refused("line 0 6#", 2, 7);
        e.refused("line 0 600", 1, 7);
        e.refused("part 0 0;part 0#", 4, 14);
        e.refused("part 0 0;part 0 6", 4, 14);
        e.refused("part 12 6#", 3, 5);
        e.refused("one 0 0 0;one 0#", 4, 14);
        e.refused("one 0 0 0 4#", 3, 10);
        e.refused("one 0 0 0 1 1#", 4, 12);
        e.refused("soft;soft#", 4, 5);
        e.refused("soft soft#", 2, 5);
        e.refused("house 2 2;house#", 4, 10);
        e.refused(FOUR + "one#", 5, 32);
        e.refused(FOUR + "away", 5, 32);
        e.refused(EIGHT + "line#", 5, 48);
        e.refused("part 6 0;#", 1, 9);
        e.refused("part 6 0;part 6", 4, 14);
        e.refused("one 6 0 0;line 6;", 3, 15);
        e.refused("away 0 0 3;soft", 2, 15);
        e.refused("line 6;#", 3, 5);
    }

    private static void inPlace(Edges e) {
        e.sentence(0, "A text that is taken tells all, in place of what there was "
                + "(what it does not tell is as at first)");
        SeatCast x = e.told("house 3 4;soft;part 11 5;one 11 5 9 0;away 5 9 1;line 5;scene 5;");
        e.calls(x, "text() = 0", "rule(0) = 2", "rule(1) = 3", "rule(2) = 0", "rule(3) = 0",
                "rule(4) = 0", "count(1) = 0", "count(6) = 0", "seat(6, 0) = BAD",
                "line(0, 0) = BAD", "one(0, 0) = BAD");
        e.due("text()", e.tell(x, "part1 4;away1 2;line3;line2;"), 4);
        e.calls(x, "seat(0, 0) = NONE", "seat(1, 0) = 4", "seat(5, 0) = NONE", "one(0, 0) = NONE",
                "one(0, 3) = 0", "line(0, 1) = 1", "line(1, 1) = 0", "rule(4) = 0");
        e.due("text()", e.tell(x, "house1 2;"), 1);
        e.calls(x, "rule(0) = 1", "rule(1) = 2", "rule(2) = 0", "rule(3) = 0", "seat(1, 0) = NONE");
        e.sentence(0, "nothing is SEEN");
        SeatCast y = e.told("line 0;");
        e.calls(y, "see(0, NONE) = 1", "see(0, NONE) = 2", "text() = 0", "count(2) = 0",
                "forget(0) = 0", "forget(1) = BAD");
        e.sentence(0, "IMAGES are gone");
        SeatCast z = e.told("line 0;");
        e.calls(z, "keep(0) = 0", "keep(1) = 0", "text() = 0", "count(3) = 0", "back(0) = STATE",
                "back(1) = STATE", "keep(0) = 0", "keep(1) = 0");
        e.sentence(0, "SHEETS stay.");
        SeatCast w = e.told("one 0 0 0;");
        e.calls(w, "sheet(0, 1, 5) = 1", "sheet(3, 2, 2) = 1", "lay(3, 1, 4) = 1");
        e.due("text()", e.tell(w, "one 1 0 0;"), 1);
        e.calls(w, "count(5) = 5", "lay(0, 4, 1) = 1", "lay(0, 5, 1) = -12",
                "read(3, 2, 0, 1) = 1", "one(0, 0) = 4");
    }

    private static void feed(Edges e) {
        e.sentence(2, "A byte (0 to 127) comes behind THE TAPE: how many it has.");
        SeatCast x = new SeatCast();
        e.calls(x, "feed(0) = 1", "feed(127) = 2", "feed(64) = 3", "count(4) = 3",
                "text() = -10", "feed(1) = 1");
        e.sentence(2, "BAD; FULL: more than 160.");
        SeatCast y = new SeatCast();
        e.calls(y, "feed(-1) = BAD", "feed(128) = BAD", "feed(256) = BAD", "feed(288) = BAD",
                "feed(MIN) = BAD", "feed(MAX) = BAD", "count(4) = 0");
        for (int n = 1; n <= 160; n++) {
            e.calls(y, "feed(32) = " + n);
        }
        e.calls(y, "feed(59) = FULL", "feed(0) = FULL", "feed(-1) = BAD", "feed(128) = BAD",
                "count(4) = 160", "text() = 0", "feed(59) = 1");
    }

    private static void end(Edges e) {
        e.sentence(3, "THE TAPE keeps its first n bytes: how many it had.");
        SeatCast x = new SeatCast();
        e.calls(x, "end(0) = 0");
        e.due("text()", e.tell(x, ""), 0);
        for (int n = 0; n < 9; n++) {
            e.ask(x, "feed(" + (int) "soft;soft".charAt(n) + ")");
        }
        e.calls(x, "end(9) = 9", "end(5) = 9", "end(5) = 5", "count(4) = 5", "feed(32) = 6",
                "end(5) = 6", "text() = 1", "rule(4) = 1", "end(0) = 0");
        SeatCast full = new SeatCast();
        for (int n = 1; n <= 160; n++) {
            e.ask(full, "feed(32)");
        }
        e.calls(full, "end(160) = 160", "end(159) = 160", "feed(32) = 160", "feed(32) = FULL",
                "end(0) = 160", "count(4) = 0", "feed(32) = 1");
        e.sentence(3, "BAD (n above that, too).");
        SeatCast y = new SeatCast();
        e.calls(y, "end(1) = BAD", "end(-1) = BAD", "end(MIN) = BAD", "end(MAX) = BAD",
                "feed(32) = 1", "end(2) = BAD", "end(-1) = BAD", "end(NONE) = BAD",
                "count(4) = 1", "end(1) = 1", "end(0) = 1", "end(1) = BAD");
    }

    private static void text(Edges e) {
        e.sentence(4, "THE TAPE (empty then, by a FAULT, too) tells all: how many lines");
        SeatCast x = new SeatCast();
        e.due("text()", e.tell(x, "soft;line 0; scene 1;away 0 0;"), 4);
        e.calls(x, "count(4) = 0", "end(0) = 0", "end(1) = BAD", "text() = 0", "rule(4) = 0");
        e.due("text()", e.tell(x, "soft;#"), -15);
        e.calls(x, "count(4) = 0", "end(1) = BAD", "feed(32) = 1", "text() = 0");
        e.taken("house1 2;" + "part0 0;part1 0;" + FOUR + EIGHT + "soft;", 16);
        e.sentence(4, "-10 less the place of its FAULT: that which was told stays.");
        SeatCast y = e.told("house 1 2;part 1 3;one 1 5 9 0;line 3;soft;");
        e.calls(y, "see(0, NONE) = 1", "keep(1) = 0");
        String[] faults = {"#", "house 3 4;part 0 5;away 0 0;line 5;line 5;x", "line 6;",
            "part 0 0;part 0 0;", FOUR + "away0 0;", "one 0 0 0;part 6 0;"};
        int[] places = {0, 42, 5, 14, 32, 19};
        for (int n = 0; n < faults.length; n++) {
            e.due("text() of " + faults[n], e.tell(y, faults[n]), -10 - places[n]);
            e.calls(y, "fault() = " + (n + 1), "rule(0) = 1", "rule(1) = 2", "rule(2) = 1",
                    "rule(3) = 1", "rule(4) = 1", "seat(0, 0) = NONE", "seat(1, 0) = 3",
                    "one(0, 0) = 1", "one(0, 1) = 5", "one(0, 2) = 9", "one(0, 3) = 1",
                    "line(0, 0) = 3", "count(2) = 1", "count(3) = 1", "count(4) = 0");
        }
    }

    private static void fault(Edges e) {
        e.sentence(5, "The FAULT of the latest text(); 0.");
        SeatCast x = new SeatCast();
        e.calls(x, "fault() = 0");
        e.due("text()", e.tell(x, "?"), -10);
        e.calls(x, "fault() = 1", "fault() = 1", "feed(200) = BAD", "feed(63) = 1", "fault() = 1",
                "end(0) = 1", "rule(9) = BAD", "fault() = 1", "text() = 0", "fault() = 0");
        String[] faults = {"?", ";", "line 6;", "soft;soft;", FOUR + "one", "part 6 0;"};
        for (int n = 0; n < faults.length; n++) {
            e.tell(x, faults[n]);
            e.calls(x, "fault() = " + (n + 1));
        }
        e.calls(x, "text() = 0", "fault() = 0");
    }

    private static void asked(Edges e) {
        SeatCast x = e.told("house 3 2;soft;part 5 4;one 5 3 8 1;away 2 1;line 2;line 1;scene 5;");
        e.sentence(6, "0 ROWS, 1 PLACES, 2 PEOPLE, 3 LINES, 4 LAW. BAD.");
        e.calls(x, "rule(0) = 3", "rule(1) = 2", "rule(2) = 2", "rule(3) = 3", "rule(4) = 1",
                "rule(-1) = BAD", "rule(5) = BAD", "rule(MIN) = BAD", "rule(MAX) = BAD");
        e.sentence(7, "Of a SEAT: 0 its PART (NONE), 1 who is there (NONE). BAD.");
        e.calls(x, "seat(5, 0) = 4", "seat(5, 1) = 0", "seat(4, 0) = NONE", "seat(4, 1) = NONE",
                "seat(0, 0) = NONE", "seat(6, 0) = BAD", "seat(6, 1) = BAD", "seat(-1, 0) = BAD",
                "seat(NONE, 1) = BAD", "seat(MIN, 0) = BAD", "seat(MAX, 0) = BAD",
                "seat(5, 2) = BAD", "seat(5, -1) = BAD", "seat(5, MIN) = BAD",
                "seat(5, MAX) = BAD");
        e.sentence(8, "Of a ONE: 0 SEAT (NONE: away), 1 VOICE, 2 COMES, 3 FEUDS (bits). BAD.");
        e.calls(x, "one(0, 0) = 5", "one(0, 1) = 3", "one(0, 2) = 8", "one(0, 3) = 2",
                "one(1, 0) = NONE", "one(1, 1) = 2", "one(1, 2) = 1", "one(1, 3) = 0",
                "one(2, 0) = BAD", "one(-1, 0) = BAD", "one(NONE, 0) = BAD", "one(MAX, 3) = BAD",
                "one(MIN, 3) = BAD", "one(0, 4) = BAD", "one(0, -1) = BAD", "one(0, MAX) = BAD",
                "one(0, MIN) = BAD");
        e.sentence(9, "Of a LINE: 0 PART, 1 whether it OPENS a SCENE (1, 0). BAD.");
        e.calls(x, "line(0, 0) = 2", "line(1, 0) = 1", "line(2, 0) = 5", "line(0, 1) = 1",
                "line(1, 1) = 0", "line(2, 1) = 1", "line(3, 0) = BAD", "line(3, 1) = BAD",
                "line(-1, 0) = BAD", "line(MIN, 0) = BAD", "line(MAX, 0) = BAD",
                "line(0, 2) = BAD", "line(0, -1) = BAD", "line(0, MIN) = BAD",
                "line(0, MAX) = BAD");
    }
}
