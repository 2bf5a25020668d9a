import java.util.Random;

/** All promises at once: runs of calls drawn from fixed seeds, each answer held against Model's. */
final class ModelTest {
    private static final int RUNS = 3000;
    private static final int CALLS = 512;
    private static final int[] EDGES = {Integer.MIN_VALUE, Integer.MAX_VALUE, -1, -2, -3, -4, -5,
        0, 1, 2, 3, 4, 5, 6, 7, 8, 9, 10, 11, 12, 13, 14, 15, 16, 20, 21, 39, 40, 41, 60, 61, 128};

    private static final Due DUE = new Due("ModelTest");

    private final Random random;
    private final SeatCast cast = new SeatCast();
    private final Model model = new Model();
    private final String run;
    private int calls;
    private int dear;

    private ModelTest(long seed) {
        random = new Random(seed);
        run = "run " + seed + ", ";
    }

    public static void main(String[] args) {
        int runs = args.length > 0 ? Integer.parseInt(args[0]) : RUNS;
        for (int seed = 0; seed < runs; seed++) {
            new ModelTest(seed).play();
        }
        DUE.close();
    }

    private void play() {
        while (calls < CALLS) {
            int kind = random.nextInt(100);
            if (calls == 0 || kind == 0) {
                tell(randomText());
            } else if (kind < 3) {
                tell(spoilt(randomText()));
            } else if (kind < 4) {
                call(1 + random.nextInt(3));
            } else if (kind < 40) {
                call(9 + random.nextInt(8));
            } else if (kind < 45) {
                readPairs();
            } else {
                call(random.nextInt(43));
            }
        }
    }

    private void tell(String text) {
        for (int n = 0; n < text.length() && calls < CALLS; n++) {
            int c = text.charAt(n);
            due(2, "feed(" + c + ")", cast.feed(c), model.feed(c));
        }
        due(4, "text() of '" + text + "'", cast.text(), model.text());
        due(5, "fault()", cast.fault(), model.fault());
    }

    /** A sheet is laid with pairs that mostly sit() takes, and read. */
    private void readPairs() {
        int k = random.nextInt(4);
        int lane = random.nextInt(3);
        int pairs = random.nextInt(4);
        int size = 2 * pairs + random.nextInt(2);
        int f = random.nextInt(6) == 0 ? random.nextInt(3) - 1 : 0;
        due(40, "sheet(" + k + ", " + lane + ", " + size + ")", cast.sheet(k, lane, size),
                model.sheet(k, lane, size));
        for (int i = 0; i < size; i++) {
            int v = i % 2 == 0 ? random.nextInt(3) : random.nextInt(6);
            v = i % 2 == 1 && random.nextInt(4) == 0 ? -4 : v;
            v += random.nextInt(6) == 0 ? 1 << 8 * random.nextInt(4) : 0;
            due(41, "lay(" + k + ", " + i + ", " + v + ")", cast.lay(k, i, v), model.lay(k, i, v));
        }
        int asLane = random.nextInt(8) == 0 ? random.nextInt(3) : lane;
        int n = random.nextInt(pairs + 2);
        due(42, "read(" + k + ", " + asLane + ", " + f + ", " + n + ")",
                cast.read(k, asLane, f, n), model.read(k, asLane, f, n));
        due(43, "torn()", cast.torn(), model.torn());
    }

    private void call(int which) {
        switch (which / 9) {
            case 0:
                callText(which);
                break;
            case 1:
                callChange(which);
                break;
            case 2:
                callSearch(which);
                break;
            case 3:
                callMissed(which);
                break;
            default:
                callSheets(which);
                break;
        }
    }

    private void callText(int which) {
        int a = argument(3);
        int b = argument(4);
        switch (which) {
            case 0:
                due(2, "feed(" + a + ")", cast.feed(a), model.feed(a));
                break;
            case 1:
                due(3, "end(" + a + ")", cast.end(a), model.end(a));
                break;
            case 2:
                due(4, "text()", cast.text(), model.text());
                break;
            case 3:
                due(5, "fault()", cast.fault(), model.fault());
                break;
            case 4:
                due(6, "rule(" + a + ")", cast.rule(a), model.rule(a));
                break;
            case 5:
                due(7, "seat" + of(a, b), cast.seat(a, b), model.seat(a, b));
                break;
            case 6:
                due(8, "one" + of(a, b), cast.one(a, b), model.one(a, b));
                break;
            case 7:
                due(9, "line" + of(a, b), cast.line(a, b), model.line(a, b));
                break;
            default:
                due(18, "far" + of(a, b), cast.far(a, b), model.far(a, b));
                break;
        }
    }

    private void callChange(int which) {
        int p = argument(4);
        int q = argument(4);
        int n = argument(10);
        boolean is = random.nextBoolean();
        switch (which) {
            case 9:
                due(10, "sit" + of(p, n), cast.sit(p, n), model.sit(p, n));
                break;
            case 10:
                due(11, "swap" + of(p, q), cast.swap(p, q), model.swap(p, q));
                break;
            case 11:
                due(12, "part" + of(n, q), cast.part(n, q), model.part(n, q));
                break;
            case 12:
                due(13, "voice" + of(p, q), cast.voice(p, q), model.voice(p, q));
                break;
            case 13:
                due(14, "comes" + of(p, n), cast.comes(p, n), model.comes(p, n));
                break;
            case 14:
                due(15, "feud" + of(p, q, is ? 1 : 0), cast.feud(p, q, is), model.feud(p, q, is));
                break;
            case 15:
                due(16, "law(" + q + ")", cast.law(q), model.law(q));
                break;
            case 16:
                due(17, "opens" + of(n, is ? 1 : 0), cast.opens(n, is), model.opens(n, is));
                break;
            default:
                due(19, "heard(" + p + ")", cast.heard(p), model.heard(p));
                break;
        }
    }

    private void callSearch(int which) {
        int what = argument(2);
        int p = argument(4);
        int n = argument(8);
        switch (which) {
            case 18:
                due(20, "speaks(" + n + ")", cast.speaks(n), model.speaks(n));
                break;
            case 19:
                due(21, "night(" + p + ")", cast.night(p), model.night(p));
                break;
            case 20:
                due(22, "says(" + p + ")", cast.says(p), model.says(p));
                break;
            case 21:
                best(random.nextBoolean() ? 10 + p : what);
                break;
            case 22:
                due(24, "change(" + what + ")", cast.change(what), model.change(what));
                break;
            case 23:
                due(25, "role" + of(n, what), cast.role(n, what), model.role(n, what));
                break;
            case 24:
                due(26, "cut(" + what + ")", cast.cut(what), model.cut(what));
                break;
            case 25:
                due(27, "louder" + of(p, what), cast.louder(p, what), model.louder(p, what));
                break;
            default:
                due(28, "peace(" + what + ")", cast.peace(what), model.peace(what));
                break;
        }
    }

    private void callMissed(int which) {
        int what = argument(2);
        int p = argument(4);
        int v = argument(11);
        int i = argument(8);
        switch (which) {
            case 27:
                int some = argument(17);
                due(29, "without(" + some + ")", cast.without(some), model.without(some));
                break;
            case 28:
                due(30, "row(" + what + ")", cast.row(what), model.row(what));
                break;
            case 29:
                due(31, "share" + of(p, what), cast.share(p, what), model.share(p, what));
                break;
            case 30:
                due(32, "mean" + of(v, what), cast.mean(v, what), model.mean(v, what));
                break;
            case 31:
                due(33, "luck" + of(v, i, what), cast.luck(v, i, what), model.luck(v, i, what));
                break;
            case 32:
                int who = random.nextBoolean() ? (int) model.speaks(i) : p;
                due(34, "see" + of(i, who), cast.see(i, who), model.see(i, who));
                break;
            case 33:
                due(35, "forget(" + i + ")", cast.forget(i), model.forget(i));
                break;
            case 34:
                fits(random.nextBoolean() ? 10 + p : what);
                break;
            default:
                int seed = random.nextInt();
                due(37, "drift" + of(seed, v, what), cast.drift(seed, v, what),
                        model.drift(seed, v, what));
                break;
        }
    }

    private void callSheets(int which) {
        int k = argument(4);
        int lane = argument(3);
        int i = argument(12);
        int n = argument(6);
        switch (which) {
            case 36:
                due(38, "keep(" + k + ")", cast.keep(k), model.keep(k));
                break;
            case 37:
                due(39, "back(" + k + ")", cast.back(k), model.back(k));
                break;
            case 38:
                due(40, "sheet" + of(k, lane, i), cast.sheet(k, lane, i), model.sheet(k, lane, i));
                break;
            case 39:
                due(41, "lay" + of(k, i, n), cast.lay(k, i, n), model.lay(k, i, n));
                break;
            case 40:
                due(42, "read" + of(k, lane, i, n), cast.read(k, lane, i, n),
                        model.read(k, lane, i, n));
                break;
            case 41:
                due(43, "torn()", cast.torn(), model.torn());
                break;
            default:
                due(44, "count(" + n + ")", cast.count(n), model.count(n));
                break;
        }
    }

    /** The model walks all seatings slowly, so that a run asks for few of them. */
    private void best(int what) {
        if (mayAskDear()) {
            due(23, "best(" + what + ")", cast.best(what), model.best(what));
        }
    }

    private void fits(int what) {
        if (mayAskDear()) {
            due(36, "fits(" + what + ")", cast.fits(what), model.fits(what));
        }
    }

    private boolean mayAskDear() {
        if (cast.rule(0) * cast.rule(1) <= 6) {
            return true;
        }
        dear++;
        return dear <= 4;
    }

    private int argument(int below) {
        return random.nextInt(12) == 0 ? EDGES[random.nextInt(EDGES.length)]
                : random.nextInt(below);
    }

    private String randomText() {
        StringBuilder text = new StringBuilder();
        int rows = 1 + random.nextInt(3);
        int places = 2 + random.nextInt(3);
        int seats = rows * places;
        text.append("house ").append(rows).append(' ').append(places).append(';');
        int kinds = 1 + random.nextInt(3);
        int from = random.nextInt(4);
        for (int s = 0; s < seats && s < 8; s++) {
            if (random.nextInt(4) != 0) {
                text.append("part").append(s).append(' ').append(from + random.nextInt(kinds))
                        .append(';');
            }
        }
        int people = random.nextInt(5);
        int seat = 0;
        for (int p = 0; p < people; p++) {
            boolean isHere = seat < seats && random.nextInt(5) != 0;
            text.append(isHere ? "one" + seat + " " : "away").append(random.nextInt(6)).append(' ')
                    .append(random.nextInt(3) == 0 ? random.nextInt(10) : 0);
            for (int q = 0; q < people; q++) {
                text.append(random.nextInt(5) == 0 ? " " + q : "");
            }
            text.append(';');
            seat += isHere ? 1 + random.nextInt(2) : 0;
        }
        int lines = random.nextInt(9);
        for (int i = 0; i < lines && text.length() < 145; i++) {
            text.append(random.nextInt(4) == 0 ? "scene" : "line")
                    .append(from + random.nextInt(kinds)).append(';');
        }
        text.append(random.nextInt(3) == 0 && text.length() < 155 ? "soft;" : "");
        return text.toString();
    }

    /** A text with something in it changed, put in, taken out or said twice. */
    private String spoilt(String text) {
        StringBuilder spoilt = new StringBuilder(text);
        String signs = " ;;0123456789abehiknlopqrstuvwyz#A\t";
        for (int n = random.nextInt(3); n >= 0; n--) {
            int at = random.nextInt(spoilt.length());
            char sign = signs.charAt(random.nextInt(signs.length()));
            switch (random.nextInt(4)) {
                case 0:
                    spoilt.setCharAt(at, sign);
                    break;
                case 1:
                    spoilt.insert(at, sign);
                    break;
                case 2:
                    spoilt.deleteCharAt(at);
                    break;
                default:
                    int from = spoilt.lastIndexOf(";", at) + 1;
                    int to = spoilt.indexOf(";", at) + 1;
                    spoilt.append(from < to ? spoilt.substring(from, to) : "");
                    break;
            }
        }
        return spoilt.substring(0, Math.min(160, spoilt.length()));
    }

    private void due(int promise, String call, long got, long want) {
        calls++;
        DUE.due(promise, run + "call " + calls + " " + call, got, want);
    }

    private static String of(int... arguments) {
        StringBuilder text = new StringBuilder("(");
        for (int n = 0; n < arguments.length; n++) {
            text.append(n == 0 ? "" : ", ").append(arguments[n]);
        }
        return text.append(')').toString();
    }
}
