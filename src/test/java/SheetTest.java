/** Promises 38 to 44: images, sheets and what is counted. */
final class SheetTest {
    private static final Due DUE = new Due("SheetTest");
    private static final int NONE = SeatCast.NONE;
    private static final int BAD = SeatCast.BAD;
    private static final int STATE = SeatCast.STATE;

    public static void main(String[] args) {
        keep();
        back();
        backOfAll();
        backOfWhatWasSeen();
        sheet();
        lay();
        laidBits();
        read();
        readRefused();
        readTorn();
        torn();
        count();
        DUE.close();
    }

    private static void keep() {
        SeatCast x = Due.told("one 0 0 0;");
        DUE.due(38, "keep(-1)", x.keep(-1), BAD);
        DUE.due(38, "keep(2)", x.keep(2), BAD);
        DUE.due(38, "count(3)", x.count(3), 0);
        DUE.due(38, "keep(1)", x.keep(1), 0);
        DUE.due(38, "keep(1)", x.keep(1), 1);
        DUE.due(38, "count(3)", x.count(3), 1);
        DUE.due(38, "keep(0)", x.keep(0), 0);
        DUE.due(38, "count(3)", x.count(3), 2);
        x.sit(0, 3);
        DUE.due(38, "keep(0)", x.keep(0), 1);
        x.back(1);
        DUE.due(38, "one(0, 0), image 1", x.one(0, 0), 0);
        x.back(0);
        DUE.due(38, "one(0, 0), image 0", x.one(0, 0), 3);
        Due.tell(x, "");
        DUE.due(38, "keep(1), behind a text", x.keep(1), 0);
    }

    private static void back() {
        SeatCast x = Due.told("part 0 0;one 0 0 0;line 0;scene 0;");
        DUE.due(39, "back(0)", x.back(0), STATE);
        DUE.due(39, "back(1)", x.back(1), STATE);
        DUE.due(39, "back(2)", x.back(2), BAD);
        DUE.due(39, "back(-1)", x.back(-1), BAD);
        x.keep(0);
        DUE.due(39, "back(1), the other one", x.back(1), STATE);
        x.sit(0, 1);
        DUE.due(39, "night(0)", x.night(0), 0);
        DUE.due(39, "back(0)", x.back(0), 2);
        DUE.due(39, "one(0, 0)", x.one(0, 0), 0);
        x.sit(0, NONE);
        DUE.due(39, "back(0), it stays", x.back(0), 2);
    }

    private static void backOfAll() {
        SeatCast x = Due.told("part 1 2;one 0 1 2 1;one 1 3 4;away 5 6;line 0;line 1;scene 2;");
        x.see(0, NONE);
        x.see(1, 2);
        x.keep(1);
        x.part(0, 5);
        x.part(1, NONE);
        x.sit(0, 5);
        x.sit(2, 4);
        x.sit(1, NONE);
        x.voice(0, 0);
        x.comes(1, 9);
        x.feud(0, 1, false);
        x.feud(2, 2, true);
        x.law(1);
        x.opens(1, true);
        x.opens(2, false);
        x.forget(0);
        x.see(2, 0);
        x.sheet(0, 0, 3);
        x.feed('x');
        DUE.due(39, "back(1)", x.back(1), 0);
        int[] parts = {NONE, 2};
        for (int s = 0; s < parts.length; s++) {
            DUE.due(39, "seat(" + s + ", 0)", x.seat(s, 0), parts[s]);
        }
        int[][] people = {{0, 1, 2, 2}, {1, 3, 4, 0}, {NONE, 5, 6, 0}};
        for (int p = 0; p < people.length; p++) {
            for (int what = 0; what < 4; what++) {
                DUE.due(39, "one(" + p + ", " + what + ")", x.one(p, what), people[p][what]);
            }
        }
        DUE.due(39, "line(1, 1)", x.line(1, 1), 0);
        DUE.due(39, "line(2, 1)", x.line(2, 1), 1);
        DUE.due(39, "rule(4)", x.rule(4), 0);
        DUE.due(39, "count(2)", x.count(2), 2);
        DUE.due(39, "fits(0), what was seen", x.fits(0), 0);
        x.forget(1);
        DUE.due(39, "fits(0), the first that was seen", x.fits(0), 30);
        DUE.due(39, "count(5), sheets are no part of it", x.count(5), 3);
        DUE.due(39, "count(4), nor is the tape", x.count(4), 1);
    }

    /** 1 comes with line 1, and only who is in seat 0 speaks. */
    private static void backOfWhatWasSeen() {
        SeatCast x = Due.told("house 1 2;part 0 0;one 0 0 0;one 1 0 1;line 0;scene 0;");
        x.see(1, 1);
        x.keep(0);
        x.forget(0);
        x.see(0, 1);
        DUE.due(39, "fits(0), he can not have spoken line 0", x.fits(0), 0);
        DUE.due(39, "back(0)", x.back(0), 2);
        DUE.due(39, "fits(0), he spoke line 1", x.fits(0), 1);
        DUE.due(39, "fits(11), he spoke line 1", x.fits(11), 1);
        DUE.due(38, "keep(0), in place of it", x.keep(0), 1);
        DUE.due(38, "count(2), it is kept, not moved", x.count(2), 1);
    }

    private static void sheet() {
        SeatCast x = new SeatCast();
        DUE.due(40, "sheet(-1, 0, 0)", x.sheet(-1, 0, 0), BAD);
        DUE.due(40, "sheet(4, 0, 0)", x.sheet(4, 0, 0), BAD);
        DUE.due(40, "sheet(0, -1, 0)", x.sheet(0, -1, 0), BAD);
        DUE.due(40, "sheet(0, 3, 0)", x.sheet(0, 3, 0), BAD);
        DUE.due(40, "sheet(0, 0, 41)", x.sheet(0, 0, 41), BAD);
        DUE.due(40, "sheet(0, 0, MAX)", x.sheet(0, 0, Integer.MAX_VALUE), BAD);
        DUE.due(40, "sheet(0, 0, -1)", x.sheet(0, 0, -1), -14);
        DUE.due(40, "sheet(0, 0, MIN)", x.sheet(0, 0, Integer.MIN_VALUE), -14);
        DUE.due(40, "sheet(4, 0, -1), BAD is the first that fits", x.sheet(4, 0, -1), BAD);
        DUE.due(40, "sheet(0, 3, -1), BAD is the first that fits", x.sheet(0, 3, -1), BAD);
        DUE.due(40, "count(5)", x.count(5), NONE);
        DUE.due(40, "sheet(0, 0, 0)", x.sheet(0, 0, 0), 1);
        DUE.due(40, "count(5)", x.count(5), 0);
        DUE.due(40, "sheet(0, 2, 40)", x.sheet(0, 2, 40), 1);
        DUE.due(40, "count(5)", x.count(5), 40);
        DUE.due(40, "sheet(0, 2, -1)", x.sheet(0, 2, -1), -14);
        DUE.due(40, "count(5), it stays", x.count(5), 40);
        DUE.due(40, "sheet(3, 1, 2)", x.sheet(3, 1, 2), 1);
        DUE.due(40, "count(5), another sheet", x.count(5), 40);
        Due.tell(x, "house 1 2;one 1 0 0;");
        x.lay(3, 1, 1);
        DUE.due(40, "sheet(3, 1, 2), anew", x.sheet(3, 1, 2), 1);
        DUE.due(40, "read(3, 1, 0, 1), cells are 0", x.read(3, 1, 0, 1), 1);
        DUE.due(40, "one(0, 0), cells are 0", x.one(0, 0), 0);
    }

    private static void lay() {
        SeatCast x = new SeatCast();
        DUE.due(41, "lay(-1, 0, 0)", x.lay(-1, 0, 0), BAD);
        DUE.due(41, "lay(4, 0, 0)", x.lay(4, 0, 0), BAD);
        DUE.due(41, "lay(3, 0, 0), nothing", x.lay(3, 0, 0), -11);
        DUE.due(41, "lay(3, -1, 0), nothing", x.lay(3, -1, 0), -11);
        x.sheet(3, 2, 3);
        DUE.due(41, "lay(3, 0, 7)", x.lay(3, 0, 7), 1);
        DUE.due(41, "lay(3, 2, 7)", x.lay(3, 2, 7), 1);
        DUE.due(41, "lay(3, 3, 7)", x.lay(3, 3, 7), -12);
        DUE.due(41, "lay(3, -1, 7)", x.lay(3, -1, 7), -12);
        DUE.due(41, "lay(3, MAX, 7)", x.lay(3, Integer.MAX_VALUE, 7), -12);
        x.sheet(3, 0, 0);
        DUE.due(41, "lay(3, 0, 7), no cells", x.lay(3, 0, 7), -12);
        DUE.due(41, "lay(2, 0, 7), another sheet", x.lay(2, 0, 7), -11);
        DUE.due(41, "torn(), lay leaves it", x.torn(), 0);
    }

    /** A cell takes the lowest bits of its lane, with the sign. */
    private static void laidBits() {
        int[][] seats = {{0x105, 5, -21, -21}, {0x1fc, NONE, -21, -21}, {0x10005, 5, 5, -21},
            {0x1fffc, NONE, NONE, -21}, {-4, NONE, NONE, NONE}, {0x7ffffffc, NONE, NONE, -21},
            {0xfc, NONE, -21, -21}, {0xfffc, NONE, NONE, -21}, {5, 5, 5, 5}};
        for (int[] row : seats) {
            for (int lane = 0; lane < 3; lane++) {
                SeatCast x = Due.told("one 1 0 0;");
                x.sheet(1, lane, 4);
                x.lay(1, 1, 2);
                x.lay(1, 3, row[0]);
                int want = row[lane + 1];
                String call = "lane " + lane + ", a cell of " + row[0];
                DUE.due(41, "read of " + call, x.read(1, lane, 0, 2), want == -21 ? -21 : 2);
                DUE.due(41, "one(0, 0) by " + call, x.one(0, 0), want == -21 ? 1 : want);
            }
        }
    }

    private static void read() {
        SeatCast x = Due.told("one 0 0 0;one 1 0 0;");
        pairs(x, 2, 1, 9, 0, 4, 1, 0, 0, NONE);
        DUE.due(42, "read(-1, 2, 0, 0)", x.read(-1, 2, 0, 0), BAD);
        DUE.due(42, "read(4, 2, 0, 0)", x.read(4, 2, 0, 0), BAD);
        DUE.due(42, "read(1, -1, 0, 0)", x.read(1, -1, 0, 0), BAD);
        DUE.due(42, "read(1, 3, 0, 0)", x.read(1, 3, 0, 0), BAD);
        DUE.due(42, "read(1, 2, 0, -1)", x.read(1, 2, 0, -1), BAD);
        DUE.due(42, "read(1, 2, 0, 21)", x.read(1, 2, 0, 21), BAD);
        DUE.due(42, "read(1, 2, 1, 1)", x.read(1, 2, 1, 1), 1);
        DUE.due(42, "one(0, 0)", x.one(0, 0), 4);
        DUE.due(42, "read(1, 2, 1, 3)", x.read(1, 2, 1, 3), 3);
        DUE.due(42, "one(0, 0)", x.one(0, 0), NONE);
        DUE.due(42, "one(1, 0)", x.one(1, 0), 0);
        x.sit(1, 5);
        x.sheet(2, 0, 40);
        DUE.due(42, "read(2, 0, 0, 20), each the same", x.read(2, 0, 0, 20), 20);
        DUE.due(42, "one(0, 0)", x.one(0, 0), 0);
        // one behind another: 1 comes where 0 has been
        SeatCast y = Due.told("one 0 0 0;one 1 0 0;");
        pairs(y, 0, 1, 0, 5, 1, 0, 0, 1);
        DUE.due(42, "read(1, 0, 0, 3)", y.read(1, 0, 0, 3), 3);
        DUE.due(42, "one(0, 0)", y.one(0, 0), 1);
        DUE.due(42, "one(1, 0)", y.one(1, 0), 0);
        for (int f : new int[] {-1, 6, 100, Integer.MIN_VALUE, Integer.MAX_VALUE}) {
            DUE.due(42, "read(1, 0, " + f + ", 0), none asked", y.read(1, 0, f, 0), 0);
            DUE.due(43, "torn(), none asked", y.torn(), 0);
        }
        DUE.due(42, "read(3, 0, 0, 0), none asked of nothing", y.read(3, 0, 0, 0), 0);
        DUE.due(42, "read(1, 2, 0, 0), none asked of another lane", y.read(1, 2, 0, 0), 0);
        DUE.due(43, "torn(), none asked", y.torn(), 0);
    }

    private static void readRefused() {
        SeatCast x = Due.told("one 0 0 0;one 1 0 0;");
        pairs(x, 2, 1, 0, 5, 1, 5);
        DUE.due(42, "read(1, 2, 0, 2), STATE", x.read(1, 2, 0, 2), -21);
        DUE.due(42, "one(0, 0), none came", x.one(0, 0), 0);
        DUE.due(42, "read(1, 2, 0, 3), refused ahead of a fault", x.read(1, 2, 0, 3), -21);
        DUE.due(42, "read(1, 2, 0, 1)", x.read(1, 2, 0, 1), 1);
        DUE.due(42, "read(1, 2, 2, 1), STATE", x.read(1, 2, 2, 1), -20);
        x.lay(1, 2, 2);
        DUE.due(42, "read(1, 2, 0, 2), no such one", x.read(1, 2, 0, 2), -21);
        x.lay(1, 2, -1);
        DUE.due(42, "read(1, 2, 0, 2), no such one", x.read(1, 2, 0, 2), -21);
        x.lay(1, 2, 1);
        x.lay(1, 3, 6);
        DUE.due(42, "read(1, 2, 0, 2), no such seat", x.read(1, 2, 0, 2), -21);
        x.lay(1, 3, -1);
        DUE.due(42, "read(1, 2, 0, 2), no such seat", x.read(1, 2, 0, 2), -21);
        DUE.due(42, "one(1, 0)", x.one(1, 0), 1);
        pairs(x, 2, 1, 0, 5, 0, 4, 0, 3, 0, 1, 9, 9);
        DUE.due(42, "read(1, 2, 0, 5), the first met", x.read(1, 2, 0, 5), -23);
        DUE.due(42, "one(0, 0), none came", x.one(0, 0), 5);
        SeatCast y = new SeatCast();
        y.sheet(0, 2, 40);
        DUE.due(42, "read(0, 2, 0, 20), nobody", y.read(0, 2, 0, 20), -20);
    }

    private static void readTorn() {
        SeatCast x = Due.told("one 0 0 0;one 1 0 0;");
        pairs(x, 1, 1, 0, 5, 1, 4, 7);
        DUE.due(42, "read(1, 1, 0, 3), half a pair at the end", x.read(1, 1, 0, 3), 2);
        DUE.due(43, "torn(), INDEX", x.torn(), 2);
        DUE.due(42, "one(0, 0), those ahead came", x.one(0, 0), 5);
        DUE.due(42, "one(1, 0), those ahead came", x.one(1, 0), 4);
        DUE.due(42, "read(1, 1, 4, 1), half a pair alone", x.read(1, 1, 4, 1), 0);
        DUE.due(42, "read(1, 1, 5, 1), behind the end", x.read(1, 1, 5, 1), 0);
        DUE.due(42, "read(1, 1, -1, 1), below 0", x.read(1, 1, -1, 1), 0);
        DUE.due(43, "torn(), INDEX", x.torn(), 2);
        DUE.due(42, "read(1, 1, -2, 20), below 0", x.read(1, 1, -2, 20), 0);
        DUE.due(42, "read(1, 1, MAX, 20)", x.read(1, 1, Integer.MAX_VALUE, 20), 0);
        DUE.due(42, "read(1, 1, MIN, 20)", x.read(1, 1, Integer.MIN_VALUE, 20), 0);
        DUE.due(43, "torn(), INDEX", x.torn(), 2);
        for (int lane = 0; lane < 3; lane += 2) {
            DUE.due(42, "read(1, " + lane + ", 0, 1), another lane", x.read(1, lane, 0, 1), 0);
            DUE.due(43, "torn(), CAST", x.torn(), 3);
        }
        DUE.due(42, "read(1, 0, 99, 1), another lane", x.read(1, 0, 99, 1), 0);
        DUE.due(43, "torn(), CAST ahead of INDEX", x.torn(), 3);
        DUE.due(42, "read(0, 0, 0, 1), nothing", x.read(0, 0, 0, 1), 0);
        DUE.due(43, "torn(), NULL", x.torn(), 1);
        DUE.due(42, "read(1, 1, 0, 2)", x.read(1, 1, 0, 2), 2);
        DUE.due(43, "torn(), none", x.torn(), 0);
    }

    private static void torn() {
        SeatCast x = Due.told("one 0 0 0;one 1 0 0;");
        DUE.due(43, "torn(), none yet", x.torn(), 0);
        x.read(0, 0, 0, 1);
        DUE.due(43, "torn(), NULL", x.torn(), 1);
        x.read(0, 0, 0, 21);
        DUE.due(43, "torn(), BAD leaves it", x.torn(), 1);
        pairs(x, 2, 0, 0, 1);
        DUE.due(43, "read(0, 2, 0, 1)", x.read(0, 2, 0, 1), -20);
        DUE.due(43, "torn(), one that is refused leaves it", x.torn(), 1);
        x.lay(0, 1, 5);
        DUE.due(43, "read(0, 2, 0, 1)", x.read(0, 2, 0, 1), 1);
        DUE.due(43, "torn(), whole", x.torn(), 0);
        x.read(0, 2, 0, 2);
        DUE.due(43, "torn(), INDEX", x.torn(), 2);
        x.lay(0, 9, 0);
        x.sheet(0, 0, -1);
        DUE.due(43, "torn(), other calls leave it", x.torn(), 2);
    }

    private static void count() {
        SeatCast x = Due.told("house 3 4;part 11 0;part 0 3;one 0 0 0;away 0 0;one 5 0 0;"
                + "line 0;scene 0;line 1;scene 2;");
        x.see(0, NONE);
        x.keep(1);
        x.feed(5);
        x.feed(6);
        x.feed(7);
        x.sheet(0, 1, 17);
        int[] counts = {2, 2, 1, 1, 3, 17, 3};
        for (int what = 0; what < counts.length; what++) {
            DUE.due(44, "count(" + what + ")", x.count(what), counts[what]);
        }
        DUE.due(44, "count(-1)", x.count(-1), BAD);
        DUE.due(44, "count(7)", x.count(7), BAD);
        x.opens(1, false);
        x.sit(2, NONE);
        x.part(0, NONE);
        DUE.due(44, "count(6)", x.count(6), 2);
        DUE.due(44, "count(0)", x.count(0), 1);
        DUE.due(44, "count(1)", x.count(1), 1);
        x.sit(0, NONE);
        DUE.due(44, "count(0), all away", x.count(0), 0);
    }

    /** A new sheet of these cells: its lane, its number, the cells. */
    private static void pairs(SeatCast x, int lane, int k, int... cells) {
        x.sheet(k, lane, cells.length);
        for (int i = 0; i < cells.length; i++) {
            x.lay(k, i, cells[i]);
        }
    }
}
