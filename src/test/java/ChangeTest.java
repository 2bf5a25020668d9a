/** Promises 10 to 17: what is changed. */
final class ChangeTest {
    private static final Due DUE = new Due("ChangeTest");

    public static void main(String[] args) {
        sit();
        swap();
        part();
        voice();
        comes();
        feud();
        law();
        opens();
        DUE.close();
    }

    private static void sit() {
        SeatCast x = Due.told("one 0 0 0;one 1 0 0;away 0 0;");
        DUE.due(10, "sit(0, 5)", x.sit(0, 5), 0);
        DUE.due(10, "one(0, 0)", x.one(0, 0), 5);
        DUE.due(10, "seat(0, 1)", x.seat(0, 1), SeatCast.NONE);
        DUE.due(10, "seat(5, 1)", x.seat(5, 1), 0);
        DUE.due(10, "sit(0, 5), there already", x.sit(0, 5), 5);
        DUE.due(10, "sit(0, 1), another one's", x.sit(0, 1), SeatCast.STATE);
        DUE.due(10, "sit(2, 1), another one's", x.sit(2, 1), SeatCast.STATE);
        DUE.due(10, "one(2, 0)", x.one(2, 0), SeatCast.NONE);
        DUE.due(10, "sit(0, 6)", x.sit(0, 6), SeatCast.BAD);
        DUE.due(10, "sit(0, -1)", x.sit(0, -1), SeatCast.BAD);
        DUE.due(10, "sit(0, -3)", x.sit(0, -3), SeatCast.BAD);
        DUE.due(10, "sit(0, -5)", x.sit(0, -5), SeatCast.BAD);
        DUE.due(10, "sit(3, 0)", x.sit(3, 0), SeatCast.BAD);
        DUE.due(10, "sit(3, 1), BAD is the first that fits", x.sit(3, 1), SeatCast.BAD);
        DUE.due(10, "sit(-1, 0)", x.sit(-1, 0), SeatCast.BAD);
        DUE.due(10, "one(0, 0)", x.one(0, 0), 5);
        DUE.due(10, "sit(0, NONE)", x.sit(0, SeatCast.NONE), 5);
        DUE.due(10, "one(0, 0)", x.one(0, 0), SeatCast.NONE);
        DUE.due(10, "sit(0, NONE), two away", x.sit(0, SeatCast.NONE), SeatCast.NONE);
        DUE.due(10, "sit(2, 0)", x.sit(2, 0), SeatCast.NONE);
        DUE.due(10, "seat(0, 1)", x.seat(0, 1), 2);
    }

    private static void swap() {
        SeatCast x = Due.told("one 0 0 0;one 4 0 0;away 0 0;away 0 0;");
        DUE.due(11, "swap(0, 1)", x.swap(0, 1), 4);
        DUE.due(11, "one(0, 0)", x.one(0, 0), 4);
        DUE.due(11, "one(1, 0)", x.one(1, 0), 0);
        DUE.due(11, "swap(0, 2)", x.swap(0, 2), SeatCast.NONE);
        DUE.due(11, "one(2, 0)", x.one(2, 0), 4);
        DUE.due(11, "swap(0, 2)", x.swap(0, 2), 4);
        DUE.due(11, "swap(3, 1)", x.swap(3, 1), 0);
        DUE.due(11, "one(1, 0)", x.one(1, 0), SeatCast.NONE);
        DUE.due(11, "swap(1, 2), both away", x.swap(1, 2), SeatCast.NONE);
        DUE.due(11, "swap(0, 0)", x.swap(0, 0), SeatCast.BAD);
        DUE.due(11, "swap(0, 4)", x.swap(0, 4), SeatCast.BAD);
        DUE.due(11, "swap(4, 0)", x.swap(4, 0), SeatCast.BAD);
        DUE.due(11, "swap(-1, 0)", x.swap(-1, 0), SeatCast.BAD);
        DUE.due(11, "swap(0, -1)", x.swap(0, -1), SeatCast.BAD);
        DUE.due(11, "one(0, 0)", x.one(0, 0), 4);
    }

    private static void part() {
        SeatCast x = new SeatCast();
        DUE.due(12, "part(0, 3)", x.part(0, 3), SeatCast.NONE);
        DUE.due(12, "part(0, 5)", x.part(0, 5), 3);
        DUE.due(12, "part(0, 6)", x.part(0, 6), SeatCast.BAD);
        DUE.due(12, "part(0, -1)", x.part(0, -1), SeatCast.BAD);
        DUE.due(12, "part(0, -5)", x.part(0, -5), SeatCast.BAD);
        DUE.due(12, "part(6, 0)", x.part(6, 0), SeatCast.BAD);
        DUE.due(12, "part(-1, 0)", x.part(-1, 0), SeatCast.BAD);
        DUE.due(12, "seat(0, 0)", x.seat(0, 0), 5);
        DUE.due(12, "part(0, NONE)", x.part(0, SeatCast.NONE), 5);
        DUE.due(12, "seat(0, 0)", x.seat(0, 0), SeatCast.NONE);
        DUE.due(12, "part(5, 0)", x.part(5, 0), SeatCast.NONE);
        DUE.due(12, "seat(5, 0)", x.seat(5, 0), 0);
    }

    private static void voice() {
        SeatCast x = Due.told("one 0 2 0;away 3 0;");
        DUE.due(13, "voice(0, 5)", x.voice(0, 5), 2);
        DUE.due(13, "voice(1, 0)", x.voice(1, 0), 3);
        DUE.due(13, "one(0, 1)", x.one(0, 1), 5);
        DUE.due(13, "one(1, 1)", x.one(1, 1), 0);
        DUE.due(13, "voice(0, 6)", x.voice(0, 6), SeatCast.BAD);
        DUE.due(13, "voice(0, -1)", x.voice(0, -1), SeatCast.BAD);
        DUE.due(13, "voice(2, 0)", x.voice(2, 0), SeatCast.BAD);
        DUE.due(13, "voice(-1, 0)", x.voice(-1, 0), SeatCast.BAD);
        DUE.due(13, "one(0, 1)", x.one(0, 1), 5);
    }

    private static void comes() {
        SeatCast x = Due.told("one 0 0 2;away 0 3;");
        DUE.due(14, "comes(0, 9)", x.comes(0, 9), 2);
        DUE.due(14, "comes(1, 0)", x.comes(1, 0), 3);
        DUE.due(14, "one(0, 2)", x.one(0, 2), 9);
        DUE.due(14, "one(1, 2)", x.one(1, 2), 0);
        DUE.due(14, "comes(0, 10)", x.comes(0, 10), SeatCast.BAD);
        DUE.due(14, "comes(0, -1)", x.comes(0, -1), SeatCast.BAD);
        DUE.due(14, "comes(2, 0)", x.comes(2, 0), SeatCast.BAD);
        DUE.due(14, "comes(-1, 0)", x.comes(-1, 0), SeatCast.BAD);
        DUE.due(14, "one(0, 2)", x.one(0, 2), 9);
    }

    private static void feud() {
        SeatCast x = Due.told("one 0 0 0 1;away 0 0;");
        DUE.due(15, "feud(0, 1, true)", x.feud(0, 1, true), 1);
        DUE.due(15, "feud(0, 1, false)", x.feud(0, 1, false), 1);
        DUE.due(15, "feud(0, 1, false)", x.feud(0, 1, false), 0);
        DUE.due(15, "one(0, 3)", x.one(0, 3), 0);
        DUE.due(15, "feud(1, 1, true), with himself", x.feud(1, 1, true), 0);
        DUE.due(15, "feud(1, 0, true)", x.feud(1, 0, true), 0);
        DUE.due(15, "one(1, 3)", x.one(1, 3), 3);
        DUE.due(15, "one(0, 3), the other one does not", x.one(0, 3), 0);
        DUE.due(15, "feud(0, 2, true)", x.feud(0, 2, true), SeatCast.BAD);
        DUE.due(15, "feud(2, 0, true)", x.feud(2, 0, true), SeatCast.BAD);
        DUE.due(15, "feud(-1, 0, true)", x.feud(-1, 0, true), SeatCast.BAD);
        DUE.due(15, "feud(0, -1, true)", x.feud(0, -1, true), SeatCast.BAD);
        DUE.due(15, "one(0, 3)", x.one(0, 3), 0);
    }

    private static void law() {
        SeatCast x = new SeatCast();
        DUE.due(16, "law(1)", x.law(1), 0);
        DUE.due(16, "law(2)", x.law(2), SeatCast.BAD);
        DUE.due(16, "law(-1)", x.law(-1), SeatCast.BAD);
        DUE.due(16, "rule(4)", x.rule(4), 1);
        DUE.due(16, "law(0)", x.law(0), 1);
        DUE.due(16, "rule(4)", x.rule(4), 0);
    }

    private static void opens() {
        SeatCast x = Due.told("line 0;line 1;scene 2;");
        DUE.due(17, "opens(0, false)", x.opens(0, false), 1);
        DUE.due(17, "line(0, 1), the first one ever does", x.line(0, 1), 1);
        DUE.due(17, "opens(0, true)", x.opens(0, true), 1);
        DUE.due(17, "opens(1, true)", x.opens(1, true), 0);
        DUE.due(17, "opens(1, true)", x.opens(1, true), 1);
        DUE.due(17, "line(1, 1)", x.line(1, 1), 1);
        DUE.due(17, "opens(2, false)", x.opens(2, false), 1);
        DUE.due(17, "line(2, 1)", x.line(2, 1), 0);
        DUE.due(17, "opens(2, false)", x.opens(2, false), 0);
        DUE.due(17, "opens(3, true)", x.opens(3, true), SeatCast.BAD);
        DUE.due(17, "opens(-1, true)", x.opens(-1, true), SeatCast.BAD);
        DUE.due(17, "count(6)", x.count(6), 2);
    }
}
