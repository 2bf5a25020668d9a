import java.util.ArrayList;
import java.util.List;

/** Terms: numbers that are not as told; the first answer that fits; what is refused changes nothing. */
final class EdgeRefused {
    private static final String TEXT = "house 2 3;part0 0;part2 1;part3 2;part5 1;one0 1 0 1;"
            + "one2 3 0;one3 2 1 0;line0;line1;line2;scene1;line0;line2;soft;";

    /** Behind the text: all that a call might change is there, and unlike what it is at first. */
    private static final String[] SETUP = {"see(0, 0)", "see(3, NONE)", "keep(0)", "law(0)",
        "opens(1, true)", "part(1, 3)", "part(3, NONE)", "voice(0, 2)", "comes(2, 2)",
        "feud(0, 2, true)", "sit(1, NONE)", "see(1, 1)", "sheet(0, 0, 4)", "lay(0, 0, 1)",
        "lay(0, 1, 4)", "lay(0, 3, 5)", "sheet(1, 1, 4)", "lay(1, 0, 2)", "lay(1, 1, 1)",
        "lay(1, 2, 1)", "lay(1, 3, 3)", "sheet(2, 2, 3)", "lay(2, 1, 4)", "read(2, 2, 2, 1)",
        "feed(35)", "text()", "feed(115)", "feed(111)", "feed(102)", "feed(116)", "feed(59)",
        "feed(108)", "feed(105)", "feed(110)", "feed(101)", "feed(52)"};

    /** Numbers that are no SEAT, ONE, LINE there, nor anything else that is asked for by it. */
    private static final String[] NO_SEAT = {"6", "-1", "NONE", "MIN", "MAX", "32"};
    private static final String[] NO_ONE = {"3", "-1", "NONE", "MIN", "MAX", "32"};
    private static final String[] NO_LINE = {"6", "-1", "NONE", "MIN", "MAX", "32"};
    private static final String[] NO_WHAT = {"2", "-1", "NONE", "MIN", "MAX"};

    private final Edges edges;
    private final List<Long> untouched;

    private EdgeRefused(Edges e) {
        edges = e;
        untouched = probe(made());
    }

    static void check(Edges e) {
        firstThatFits(e);
        e.sentence(0, "(a number is not as told, there is no such SEAT, ONE, LINE, IMAGE, SHEET)");
        EdgeRefused refused = new EdgeRefused(e);
        refused.badText();
        refused.badChange();
        refused.badNight();
        refused.badSeating();
        refused.badMissed();
        refused.badSeen();
        refused.badSheets();
        e.sentence(0, "what is refused changes nothing (but THE TAPE, as told).");
        refused.otherAnswers();
        refused.full();
        refused.askedAlone();
    }

    private static void firstThatFits(Edges e) {
        e.sentence(0, "the first that fits");
        SeatCast x = e.told("house 1 2;part0 0;one0 0 0;one1 0 0;away0 0;line0;");
        e.calls(x, "sit(3, 1) = BAD", "sit(0, 1) = STATE", "sit(0, 2) = BAD", "heard(3) = BAD",
                "heard(2) = STATE", "back(2) = BAD", "back(1) = STATE", "change(2) = BAD",
                "change(1) = NONE", "peace(2) = BAD", "peace(1) = NONE", "louder(2, 2) = BAD",
                "louder(3, 0) = BAD", "louder(2, 0) = NONE", "speaks(1) = BAD",
                "speaks(0) = 0", "seat(0, 2) = BAD", "seat(1, 0) = NONE", "one(3, 0) = BAD",
                "one(2, 0) = NONE", "best(13) = BAD", "best(12) = NONE", "night(4) = BAD",
                "night(2) = NONE", "sheet(4, 0, -1) = BAD", "sheet(0, 3, -1) = BAD",
                "sheet(0, 0, -1) = -14", "lay(4, -1, 0) = BAD", "lay(0, -1, 0) = -11",
                "read(0, 0, 0, 21) = BAD", "read(0, 0, 0, 20) = 0", "share(2, 2) = BAD",
                "share(2, 1) = 1");
        for (int n = 1; n <= 8; n++) {
            e.calls(x, "see(0, 0) = " + n);
        }
        e.calls(x, "see(1, 0) = BAD", "see(0, 3) = BAD", "see(0, 0) = FULL");
        for (int n = 1; n <= 160; n++) {
            e.calls(x, "feed(32) = " + n);
        }
        e.calls(x, "feed(128) = BAD", "feed(-1) = BAD", "feed(32) = FULL");
        e.calls(new SeatCast(), "drift(0, 0, 0) = BAD", "drift(0, 1, 2) = BAD",
                "drift(0, 1, 0) = STATE");
    }

    private void badText() {
        bad("feed(", ")", "-1", "128", "MIN", "MAX", "256", "NONE");
        bad("end(", ")", "-1", "11", "160", "MIN", "MAX", "NONE");
        bad("rule(", ")", "-1", "5", "MIN", "MAX", "NONE");
        bad("seat(", ", 0)", NO_SEAT);
        bad("seat(0, ", ")", NO_WHAT);
        bad("one(", ", 0)", NO_ONE);
        bad("one(0, ", ")", "-1", "4", "MIN", "MAX", "NONE");
        bad("line(", ", 0)", NO_LINE);
        bad("line(0, ", ")", NO_WHAT);
    }

    private void badChange() {
        bad("sit(", ", 1)", NO_ONE);
        bad("sit(0, ", ")", "6", "-1", "-2", "-3", "-5", "MIN", "MAX", "32");
        bad("swap(", ", 0)", NO_ONE);
        bad("swap(0, ", ")", NO_ONE);
        bad("swap(1, ", ")", "1");
        bad("part(", ", 0)", NO_SEAT);
        bad("part(0, ", ")", "6", "-1", "-2", "-3", "-5", "MIN", "MAX");
        bad("voice(", ", 0)", NO_ONE);
        bad("voice(0, ", ")", "6", "-1", "NONE", "MIN", "MAX");
        bad("comes(", ", 0)", NO_ONE);
        bad("comes(0, ", ")", "10", "-1", "NONE", "MIN", "MAX");
        bad("feud(", ", 0, true)", NO_ONE);
        bad("feud(0, ", ", true)", NO_ONE);
        bad("feud(", ", 0, false)", NO_ONE);
        bad("feud(0, ", ", false)", NO_ONE);
        bad("law(", ")", NO_WHAT);
        bad("opens(", ", true)", NO_LINE);
        bad("opens(", ", false)", NO_LINE);
    }

    private void badNight() {
        bad("far(", ", 0)", NO_SEAT);
        bad("far(0, ", ")", NO_SEAT);
        bad("heard(", ")", NO_ONE);
        bad("speaks(", ")", NO_LINE);
        bad("night(", ")", "4", "-1", "NONE", "MIN", "MAX");
        bad("says(", ")", NO_ONE);
    }

    private void badSeating() {
        bad("best(", ")", "1", "9", "13", "-1", "NONE", "-10", "MIN", "MAX");
        bad("change(", ")", NO_WHAT);
        bad("role(", ", 0)", NO_SEAT);
        bad("role(0, ", ")", NO_WHAT);
        bad("cut(", ")", NO_WHAT);
        bad("louder(", ", 0)", NO_ONE);
        bad("louder(0, ", ")", NO_WHAT);
        bad("peace(", ")", NO_WHAT);
    }

    private void badMissed() {
        bad("without(", ")", "8", "-1", "NONE", "MIN", "MAX");
        bad("row(", ")", NO_WHAT);
        bad("share(", ", 0)", NO_ONE);
        bad("share(0, ", ")", NO_WHAT);
        bad("mean(", ", 0)", "11", "-1", "NONE", "MIN", "MAX");
        bad("mean(5, ", ")", NO_WHAT);
        bad("luck(", ", 0, 0)", "11", "-1", "NONE", "MIN", "MAX");
        bad("luck(5, ", ", 0)", NO_LINE);
        bad("luck(5, 0, ", ")", NO_WHAT);
    }

    private void badSeen() {
        bad("see(", ", 0)", NO_LINE);
        bad("see(0, ", ")", "3", "-1", "-2", "-3", "-5", "MIN", "MAX");
        bad("forget(", ")", "4", "8", "-1", "NONE", "MIN", "MAX");
        bad("fits(", ")", "1", "9", "13", "-1", "NONE", "-10", "MIN", "MAX");
        bad("drift(5, ", ", 0)", "0", "61", "-1", "NONE", "MIN", "MAX");
        bad("drift(5, 1, ", ")", NO_WHAT);
    }

    private void badSheets() {
        String[] noSheet = {"4", "-1", "NONE", "MIN", "MAX"};
        String[] noLane = {"3", "-1", "NONE", "MIN", "MAX"};
        bad("keep(", ")", NO_WHAT);
        bad("back(", ")", NO_WHAT);
        bad("sheet(", ", 0, 2)", noSheet);
        bad("sheet(0, ", ", 2)", noLane);
        bad("sheet(0, 0, ", ")", "41", "MAX");
        bad("lay(", ", 0, 0)", noSheet);
        bad("read(", ", 0, 0, 1)", noSheet);
        bad("read(0, ", ", 0, 1)", noLane);
        bad("read(0, 0, 0, ", ")", "21", "-1", "NONE", "MIN", "MAX");
        bad("count(", ")", "7", "-1", "NONE", "MIN", "MAX");
    }

    /** Refused by an answer that is not BAD. */
    private void otherAnswers() {
        same("sit(0, 3)", SeatCast.STATE);
        same("sit(1, 0)", SeatCast.STATE);
        same("heard(1)", SeatCast.STATE);
        same("back(1)", SeatCast.STATE);
        same("sheet(0, 0, -1)", -14);
        same("sheet(3, 2, MIN)", -14);
        same("lay(3, 0, 1)", -11);
        same("lay(0, 4, 1)", -12);
        same("lay(0, -1, 1)", -12);
        // 1 goes to 4, then 0 to 5; 2 to 1, then 1 to 3; the last is where another one is
        same("read(1, 1, 0, 1)", 1, false);
        same("read(0, 0, 0, 2)", 2, false);
        SeatCast x = made();
        edges.ask(x, "lay(0, 3, 3)");
        List<Long> with = probe(x);
        SeatCast y = made();
        edges.ask(y, "lay(0, 3, 3)");
        edges.calls(y, "read(0, 0, 0, 2) = -21");
        edges.due("as it was behind a read() that is refused", probe(y).equals(with) ? 1 : 0, 1);
    }

    /** FULL: of the tape, of what is seen. */
    private void full() {
        List<List<Long>> ways = new ArrayList<>();
        for (int way = 0; way < 2; way++) {
            SeatCast x = edges.told("one0 0 0;line0;");
            for (int n = 1; n <= 160; n++) {
                edges.ask(x, "feed(32)");
            }
            for (int n = 1; n <= 8; n++) {
                edges.ask(x, "see(0, NONE)");
            }
            if (way == 1) {
                edges.calls(x, "feed(35) = FULL", "see(0, 0) = FULL");
            }
            ways.add(probe(x));
        }
        edges.due("as it was behind FULL", ways.get(0).equals(ways.get(1)) ? 1 : 0, 1);
    }

    /** What only asks changes nothing, either. */
    private void askedAlone() {
        String[] asks = {"fault()", "rule(0)", "seat(0, 1)", "one(0, 0)", "line(0, 0)", "far(0, 5)",
            "heard(0)", "speaks(0)", "night(0)", "night(3)", "says(0)", "best(0)", "best(10)",
            "best(12)", "change(0)", "change(1)", "role(0, 0)", "role(5, 1)", "cut(0)", "cut(1)",
            "louder(0, 0)", "louder(2, 1)", "peace(0)", "peace(1)", "without(0)", "without(7)",
            "row(0)", "row(1)", "share(0, 0)", "share(1, 1)", "mean(3, 0)", "mean(10, 1)",
            "luck(3, 0, 0)", "luck(0, 5, 1)", "fits(0)", "fits(10)", "fits(12)",
            "drift(1, 1, 0)", "drift(1, 60, 1)", "torn()", "count(0)", "forget(3)", "end(10)",
            "opens(0, false)", "sit(0, 0)", "part(0, 0)", "law(0)"};
        for (String call : asks) {
            SeatCast x = made();
            edges.ask(x, call);
            edges.due("as it was behind " + call, probe(x).equals(untouched) ? 1 : 0, 1);
        }
        // the probe sees what is changed
        String[] changes = {"feed(32)", "end(9)", "text()", "sit(0, 1)", "swap(0, 1)", "part(0, 1)",
            "voice(0, 1)", "comes(0, 1)", "feud(0, 0, true)", "law(1)", "opens(2, true)",
            "see(0, 0)", "forget(2)", "keep(0)", "keep(1)", "back(0)", "sheet(0, 0, 4)",
            "lay(0, 0, 0)", "lay(2, 1, 5)", "read(3, 0, 0, 0)"};
        for (String call : changes) {
            SeatCast x = made();
            edges.ask(x, call);
            edges.due("otherwise behind " + call, probe(x).equals(untouched) ? 1 : 0, 0);
        }
    }

    /** Calls with one number that is not as told. */
    private void bad(String ahead, String behind, String... numbers) {
        for (String number : numbers) {
            same(ahead + number + behind, SeatCast.BAD);
        }
    }

    private void same(String call, long want) {
        same(call, want, true);
    }

    private void same(String call, long want, boolean is) {
        SeatCast x = made();
        edges.due(call, edges.ask(x, call), want);
        edges.due("as it was behind " + call, probe(x).equals(untouched) ? 1 : 0, is ? 1 : 0);
    }

    private SeatCast made() {
        SeatCast x = edges.told(TEXT);
        for (String call : SETUP) {
            edges.ask(x, call);
        }
        return x;
    }

    /** All that can be asked of an object, to the last: its sheets are read and its tape is told. */
    private List<Long> probe(SeatCast x) {
        List<Long> told = new ArrayList<>();
        probeHouse(x, told);
        for (int n = 0; n < 7; n++) {
            told.add(edges.ask(x, "count(" + n + ")"));
        }
        told.add(edges.ask(x, "fault()"));
        told.add(edges.ask(x, "torn()"));
        for (int k = 0; k < 4; k++) {
            for (int lane = 0; lane < 3; lane++) {
                told.add(edges.ask(x, "read(" + k + ", " + lane + ", 0, 2)"));
                told.add(edges.ask(x, "torn()"));
                told.add(edges.ask(x, "one(0, 0)"));
                told.add(edges.ask(x, "one(1, 0)"));
                told.add(edges.ask(x, "one(2, 0)"));
            }
        }
        told.add(edges.ask(x, "lay(2, 2, 0)"));
        for (int k = 0; k < 2; k++) {
            told.add(edges.ask(x, "back(" + k + ")"));
            probeHouse(x, told);
        }
        told.add(edges.ask(x, "text()"));
        told.add(edges.ask(x, "fault()"));
        for (int n = 0; n < 5; n++) {
            told.add(edges.ask(x, "rule(" + n + ")"));
        }
        told.add(edges.ask(x, "line(0, 0)"));
        return told;
    }

    private void probeHouse(SeatCast x, List<Long> told) {
        for (int n = 0; n < 5; n++) {
            told.add(edges.ask(x, "rule(" + n + ")"));
        }
        for (int s = 0; s < 6; s++) {
            told.add(edges.ask(x, "seat(" + s + ", 0)"));
        }
        for (int p = 0; p < 3; p++) {
            for (int n = 0; n < 4; n++) {
                told.add(edges.ask(x, "one(" + p + ", " + n + ")"));
            }
        }
        for (int i = 0; i < 6; i++) {
            told.add(edges.ask(x, "line(" + i + ", 0)"));
            told.add(edges.ask(x, "line(" + i + ", 1)"));
        }
        told.add(edges.ask(x, "count(2)"));
        told.add(edges.ask(x, "night(1)"));
        told.add(edges.ask(x, "fits(0)"));
        told.add(edges.ask(x, "fits(10)"));
        told.add(edges.ask(x, "fits(12)"));
    }
}
