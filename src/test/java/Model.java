import java.util.ArrayList;
import java.util.HashMap;
import java.util.List;
import java.util.Map;
import java.util.TreeMap;
import java.util.TreeSet;

/**
 * The document once more, written the slow way and on its own: with lists, recursion over people
 * and orders one by one, so that a slip in SeatCast does not stand here too.
 */
final class Model {
    static final int BAD = -1, STATE = -2, FULL = -3, NONE = -4;

    /** A text's fault: which one and where. */
    private static final class Fault extends RuntimeException {
        private static final long serialVersionUID = 1L;
        final int which;
        final int place;

        Fault(int which, int place) {
            super(null, null, false, false);
            this.which = which;
            this.place = place;
        }
    }

    private static final class Person {
        int seat;
        int voice;
        int comes;
        TreeSet<Integer> feuds = new TreeSet<>();

        Person copy() {
            Person p = new Person();
            p.seat = seat;
            p.voice = voice;
            p.comes = comes;
            p.feuds = new TreeSet<>(feuds);
            return p;
        }
    }

    private static final class Line {
        int part;
        boolean opens;

        Line copy() {
            Line l = new Line();
            l.part = part;
            l.opens = opens;
            return l;
        }
    }

    private static final class World {
        int rows = 2;
        int places = 3;
        int law = 0;
        Map<Integer, Integer> parts = new TreeMap<>();
        List<Person> people = new ArrayList<>();
        List<Line> lines = new ArrayList<>();
        List<int[]> seen = new ArrayList<>();

        World copy() {
            World w = new World();
            w.rows = rows;
            w.places = places;
            w.law = law;
            w.parts.putAll(parts);
            for (Person p : people) {
                w.people.add(p.copy());
            }
            for (Line l : lines) {
                w.lines.add(l.copy());
            }
            w.seen.addAll(seen);
            return w;
        }

        boolean seat(int s) {
            return s >= 0 && s < rows * places;
        }

        boolean one(int p) {
            return p >= 0 && p < people.size();
        }

        boolean line(int i) {
            return i >= 0 && i < lines.size();
        }

        int far(int s, int t) {
            return Math.abs(s / places - t / places) + Math.abs(s % places - t % places);
        }

        int at(int s) {
            for (int p = 0; p < people.size(); p++) {
                if (people.get(p).seat == s) {
                    return p;
                }
            }
            return NONE;
        }

        int sit(int p, int s) {
            if (!one(p) || !(s == NONE || seat(s))) {
                return BAD;
            }
            if (s != NONE && at(s) != NONE && at(s) != p) {
                return STATE;
            }
            int was = people.get(p).seat;
            people.get(p).seat = s;
            return was;
        }

        void swap(int p, int q) {
            int s = people.get(p).seat;
            people.get(p).seat = people.get(q).seat;
            people.get(q).seat = s;
        }

        /** Who speaks each line that is not cut. */
        Map<Integer, Integer> night(TreeSet<Integer> cut) {
            Map<Integer, Integer> told = new HashMap<>();
            int scene = 0;
            Map<Integer, Integer> sceneOf = new HashMap<>();
            List<Integer> left = new ArrayList<>();
            for (int i = 0; i < lines.size(); i++) {
                scene += lines.get(i).opens ? 1 : 0;
                sceneOf.put(i, scene);
                if (!cut.contains(i)) {
                    left.add(i);
                }
            }
            for (int n = 0; n < left.size(); n++) {
                int i = left.get(n);
                boolean opens = n == 0 || !sceneOf.get(left.get(n - 1)).equals(sceneOf.get(i));
                boolean missedInScene = false;
                for (int m = 0; m < n; m++) {
                    int j = left.get(m);
                    missedInScene |= sceneOf.get(j).equals(sceneOf.get(i)) && told.get(j) == NONE;
                }
                if (law == 0 && missedInScene) {
                    told.put(i, NONE);
                    continue;
                }
                int who = NONE;
                for (int s = rows * places - 1; s >= 0; s--) {
                    int p = at(s);
                    if (p == NONE || people.get(p).comes > i || !parts.containsKey(s)
                            || parts.get(s) != lines.get(i).part) {
                        continue;
                    }
                    boolean can = opens || told.get(left.get(n - 1)) == NONE;
                    if (!can) {
                        int q = told.get(left.get(n - 1));
                        Person cue = people.get(q);
                        can = far(s, cue.seat) <= cue.voice && !people.get(p).feuds.contains(q);
                    }
                    if (can) {
                        who = p;
                    }
                }
                told.put(i, who);
            }
            return told;
        }

        List<Integer> speakers() {
            Map<Integer, Integer> told = night(new TreeSet<>());
            List<Integer> all = new ArrayList<>();
            for (int i = 0; i < lines.size(); i++) {
                all.add(told.get(i));
            }
            return all;
        }

        int spoken() {
            int n = 0;
            for (int who : speakers()) {
                n += who == NONE ? 0 : 1;
            }
            return n;
        }

        World awayBut(TreeSet<Integer> stay) {
            World w = copy();
            for (int p = 0; p < people.size(); p++) {
                if (!stay.contains(p)) {
                    w.people.get(p).seat = NONE;
                }
            }
            return w;
        }

        TreeSet<Integer> here() {
            TreeSet<Integer> here = new TreeSet<>();
            for (int p = 0; p < people.size(); p++) {
                if (people.get(p).seat != NONE) {
                    here.add(p);
                }
            }
            return here;
        }
    }

    private World now = new World();
    private final World[] images = new World[2];
    private String tape = "";
    private int fault;
    private int torn;
    private final Object[] sheets = new Object[4];

    // ---- the text

    long feed(int c) {
        if (c < 0 || c > 127) {
            return BAD;
        }
        if (tape.length() == 160) {
            return FULL;
        }
        tape += (char) c;
        return tape.length();
    }

    long end(int n) {
        if (n < 0 || n > tape.length()) {
            return BAD;
        }
        int had = tape.length();
        tape = tape.substring(0, n);
        return had;
    }

    private String source;
    private int at;
    private String token;
    private int start;

    /** Takes the next token; "" is the end. */
    private String take() {
        while (at < source.length() && source.charAt(at) == ' ') {
            at++;
        }
        start = at;
        if (at == source.length()) {
            token = "";
            return token;
        }
        String rest = source.substring(at);
        if (rest.charAt(0) == ';') {
            token = ";";
        } else {
            token = rest.replaceFirst("(?s)^([a-z]+|[0-9]+).*$", "$1");
            if (!token.matches("[a-z]+|[0-9]{1,2}")) {
                throw new Fault(1, start);
            }
        }
        at += token.length();
        return token;
    }

    private int number(int low, int high) {
        take();
        return taken(low, high);
    }

    private int taken(int low, int high) {
        if (!token.matches("[0-9]+")) {
            throw new Fault(2, start);
        }
        int n = Integer.parseInt(token);
        if (n < low || n > high) {
            throw new Fault(3, start);
        }
        return n;
    }

    private void sign() {
        if (!take().equals(";")) {
            throw new Fault(2, start);
        }
    }

    private int parse(World w) {
        boolean house = false;
        boolean soft = false;
        int told = 0;
        int mostSeat = -1;
        int mostOne = -1;
        while (!take().isEmpty()) {
            String name = token;
            switch (name) {
                case "house":
                    if (house) {
                        throw new Fault(4, start);
                    }
                    house = true;
                    w.rows = number(1, 3);
                    w.places = number(2, 4);
                    sign();
                    break;
                case "part":
                    int s = number(0, 11);
                    if (w.parts.containsKey(s)) {
                        throw new Fault(4, start);
                    }
                    mostSeat = Math.max(mostSeat, s);
                    w.parts.put(s, number(0, 5));
                    sign();
                    break;
                case "one":
                case "away":
                    if (w.people.size() == 4) {
                        throw new Fault(5, start);
                    }
                    Person p = new Person();
                    p.seat = NONE;
                    if (name.equals("one")) {
                        p.seat = number(0, 11);
                        if (w.at(p.seat) != NONE) {
                            throw new Fault(4, start);
                        }
                        mostSeat = Math.max(mostSeat, p.seat);
                    }
                    p.voice = number(0, 5);
                    p.comes = number(0, 9);
                    while (!take().equals(";")) {
                        int q = taken(0, 3);
                        if (!p.feuds.add(q)) {
                            throw new Fault(4, start);
                        }
                        mostOne = Math.max(mostOne, q);
                    }
                    w.people.add(p);
                    break;
                case "line":
                case "scene":
                    if (w.lines.size() == 8) {
                        throw new Fault(5, start);
                    }
                    Line l = new Line();
                    l.opens = name.equals("scene") || w.lines.isEmpty();
                    l.part = number(0, 5);
                    sign();
                    w.lines.add(l);
                    break;
                case "soft":
                    if (soft) {
                        throw new Fault(4, start);
                    }
                    soft = true;
                    sign();
                    w.law = 1;
                    break;
                default:
                    throw new Fault(2, start);
            }
            told++;
        }
        if (mostSeat >= w.rows * w.places || mostOne >= w.people.size()) {
            throw new Fault(6, source.length());
        }
        return told;
    }

    long text() {
        source = tape;
        tape = "";
        at = 0;
        World w = new World();
        try {
            int told = parse(w);
            now = w;
            images[0] = null;
            images[1] = null;
            fault = 0;
            return told;
        } catch (Fault f) {
            fault = f.which;
            return -10 - f.place;
        }
    }

    long fault() {
        return fault;
    }

    long rule(int what) {
        int[] all = {now.rows, now.places, now.people.size(), now.lines.size(), now.law};
        return what < 0 || what > 4 ? BAD : all[what];
    }

    long seat(int s, int what) {
        if (!now.seat(s) || what < 0 || what > 1) {
            return BAD;
        }
        return what == 0 ? now.parts.getOrDefault(s, NONE) : now.at(s);
    }

    long one(int p, int what) {
        if (!now.one(p) || what < 0 || what > 3) {
            return BAD;
        }
        Person o = now.people.get(p);
        int feuds = 0;
        for (int q : o.feuds) {
            feuds += 1 << q;
        }
        return new int[] {o.seat, o.voice, o.comes, feuds}[what];
    }

    long line(int i, int what) {
        if (!now.line(i) || what < 0 || what > 1) {
            return BAD;
        }
        return what == 0 ? now.lines.get(i).part : now.lines.get(i).opens ? 1 : 0;
    }

    // ---- what is changed

    long sit(int p, int s) {
        return now.sit(p, s);
    }

    long swap(int p, int q) {
        if (!now.one(p) || !now.one(q) || p == q) {
            return BAD;
        }
        now.swap(p, q);
        return now.people.get(p).seat;
    }

    long part(int s, int k) {
        if (!now.seat(s) || !(k == NONE || k >= 0 && k <= 5)) {
            return BAD;
        }
        Integer was = k == NONE ? now.parts.remove(s) : now.parts.put(s, k);
        return was == null ? NONE : was;
    }

    long voice(int p, int v) {
        if (!now.one(p) || v < 0 || v > 5) {
            return BAD;
        }
        int was = now.people.get(p).voice;
        now.people.get(p).voice = v;
        return was;
    }

    long comes(int p, int i) {
        if (!now.one(p) || i < 0 || i > 9) {
            return BAD;
        }
        int was = now.people.get(p).comes;
        now.people.get(p).comes = i;
        return was;
    }

    long feud(int p, int q, boolean is) {
        if (!now.one(p) || !now.one(q)) {
            return BAD;
        }
        TreeSet<Integer> feuds = now.people.get(p).feuds;
        boolean was = is ? !feuds.add(q) : feuds.remove(q);
        return was ? 1 : 0;
    }

    long law(int v) {
        if (v < 0 || v > 1) {
            return BAD;
        }
        int was = now.law;
        now.law = v;
        return was;
    }

    long opens(int i, boolean is) {
        if (!now.line(i)) {
            return BAD;
        }
        boolean was = now.lines.get(i).opens;
        now.lines.get(i).opens = is || i == 0;
        return was ? 1 : 0;
    }

    // ---- a night

    long far(int s, int t) {
        return now.seat(s) && now.seat(t) ? now.far(s, t) : BAD;
    }

    long heard(int p) {
        if (!now.one(p)) {
            return BAD;
        }
        Person o = now.people.get(p);
        if (o.seat == NONE) {
            return STATE;
        }
        int bits = 0;
        for (int s = 0; s < now.rows * now.places; s++) {
            bits += now.far(s, o.seat) <= o.voice ? 1 << s : 0;
        }
        return bits;
    }

    long speaks(int i) {
        return now.line(i) ? now.speakers().get(i) : BAD;
    }

    long night(int what) {
        List<Integer> all = now.speakers();
        if (what == 0) {
            return now.spoken();
        }
        if (what == 1) {
            int bits = 0;
            for (int i = 0; i < all.size(); i++) {
                bits += all.get(i) == NONE ? 0 : 1 << i;
            }
            return bits;
        }
        if (what == 2) {
            return all.indexOf(NONE) < 0 ? NONE : all.indexOf(NONE);
        }
        if (what != 3) {
            return BAD;
        }
        int whole = 0;
        for (int i = 0; i < all.size(); i++) {
            if (now.lines.get(i).opens) {
                boolean is = all.get(i) != NONE;
                for (int j = i + 1; j < all.size() && !now.lines.get(j).opens; j++) {
                    is &= all.get(j) != NONE;
                }
                whole += is ? 1 : 0;
            }
        }
        return whole;
    }

    long says(int p) {
        if (!now.one(p)) {
            return BAD;
        }
        int n = 0;
        for (int who : now.speakers()) {
            n += who == p ? 1 : 0;
        }
        return n;
    }

    // ---- who should sit where

    private List<World> seatings() {
        List<World> all = new ArrayList<>();
        World w = now.copy();
        List<Integer> movers = new ArrayList<>(now.here());
        for (int p : movers) {
            w.people.get(p).seat = NONE;
        }
        seatings(w, movers, 0, all);
        return all;
    }

    private void seatings(World w, List<Integer> movers, int m, List<World> all) {
        if (m == movers.size()) {
            all.add(w.copy());
            return;
        }
        for (int s = 0; s < w.rows * w.places; s++) {
            if (w.at(s) == NONE) {
                w.people.get(movers.get(m)).seat = s;
                seatings(w, movers, m + 1, all);
                w.people.get(movers.get(m)).seat = NONE;
            }
        }
    }

    long best(int what) {
        if (what != 0 && (what < 10 || !now.one(what - 10))) {
            return BAD;
        }
        World first = null;
        int most = -1;
        for (World w : seatings()) {
            int spoken = w.spoken();
            if (spoken > most) {
                most = spoken;
                first = w;
            }
        }
        return what == 0 ? most : first.people.get(what - 10).seat;
    }

    long change(int what) {
        if (what < 0 || what > 1) {
            return BAD;
        }
        int most = now.spoken();
        int answer = NONE;
        for (int pair = 1; pair < 40; pair++) {
            int p = pair / 10;
            int q = pair % 10;
            if (p < q && now.one(q)) {
                World w = now.copy();
                w.swap(p, q);
                if (w.spoken() > most) {
                    most = w.spoken();
                    answer = what == 0 ? pair : most;
                }
            }
        }
        return answer;
    }

    long role(int s, int what) {
        if (!now.seat(s) || what < 0 || what > 1) {
            return BAD;
        }
        int most = -1;
        int answer = NONE;
        for (int k = 0; k <= 5; k++) {
            World w = now.copy();
            w.parts.put(s, k);
            if (w.spoken() > most) {
                most = w.spoken();
                answer = what == 0 ? k : most;
            }
        }
        return answer;
    }

    long cut(int what) {
        if (what < 0 || what > 1) {
            return BAD;
        }
        for (int size = 0; size <= 8; size++) {
            for (int bits = 0; bits < 1 << now.lines.size(); bits++) {
                if (Integer.bitCount(bits) != size) {
                    continue;
                }
                TreeSet<Integer> cut = new TreeSet<>();
                for (int i = 0; i < 8; i++) {
                    if ((bits >> i & 1) == 1) {
                        cut.add(i);
                    }
                }
                if (!now.night(cut).containsValue(NONE)) {
                    return what == 0 ? size : bits;
                }
            }
        }
        throw new IllegalStateException("all lines cut leave none that is missed");
    }

    long louder(int p, int what) {
        if (!now.one(p) || what < 0 || what > 1) {
            return BAD;
        }
        for (int v = 0; v <= 5; v++) {
            World w = now.copy();
            w.people.get(p).voice = v;
            if (w.spoken() > now.spoken()) {
                return what == 0 ? v : w.spoken();
            }
        }
        return NONE;
    }

    long peace(int what) {
        if (what < 0 || what > 1) {
            return BAD;
        }
        int most = now.spoken();
        int answer = NONE;
        for (int p = 0; p < now.people.size(); p++) {
            for (int q : now.people.get(p).feuds) {
                World w = now.copy();
                w.people.get(p).feuds.remove(q);
                if (w.spoken() > most) {
                    most = w.spoken();
                    answer = what == 0 ? 10 * p + q : most;
                }
            }
        }
        return answer;
    }

    // ---- who is missed

    long without(int some) {
        if (some < 0 || some >= 1 << now.people.size()) {
            return BAD;
        }
        World w = now.copy();
        for (int p = 0; p < now.people.size(); p++) {
            if ((some >> p & 1) == 1) {
                w.people.get(p).seat = NONE;
            }
        }
        return w.spoken();
    }

    long row(int what) {
        if (what < 0 || what > 1) {
            return BAD;
        }
        int fewest = 100;
        int answer = NONE;
        for (int r = 0; r < now.rows; r++) {
            World w = now.copy();
            for (Person p : w.people) {
                if (p.seat != NONE && p.seat / w.places == r) {
                    p.seat = NONE;
                }
            }
            if (w.spoken() < fewest) {
                fewest = w.spoken();
                answer = what == 0 ? r : fewest;
            }
        }
        return answer;
    }

    private static long fraction(long top, long bottom, int what) {
        for (long d = bottom; d > 1; d--) {
            if (top % d == 0 && bottom % d == 0) {
                return what == 0 ? top / d : bottom / d;
            }
        }
        return what == 0 ? top : bottom;
    }

    private int orders;
    private int gained;

    private void arrive(TreeSet<Integer> before, TreeSet<Integer> all, int p) {
        if (before.size() == all.size()) {
            orders++;
            return;
        }
        for (int q : all) {
            if (before.contains(q)) {
                continue;
            }
            TreeSet<Integer> then = new TreeSet<>(before);
            then.add(q);
            int had = orders;
            arrive(then, all, p);
            if (q == p) {
                int gain = now.awayBut(then).spoken() - now.awayBut(before).spoken();
                gained += gain * (orders - had);
            }
        }
    }

    long share(int p, int what) {
        if (!now.one(p) || what < 0 || what > 1) {
            return BAD;
        }
        orders = 0;
        gained = 0;
        arrive(new TreeSet<>(), now.here(), p);
        return fraction(gained, orders, what);
    }

    /** The sum over all who stay, weighed: line i alone, or all lines by NONE. */
    private long weighed(World w, List<Integer> open, int v, int i) {
        if (open.isEmpty()) {
            return i == NONE ? w.spoken() : w.speakers().get(i) == NONE ? 0 : 1;
        }
        List<Integer> rest = open.subList(1, open.size());
        World gone = w.copy();
        gone.people.get(open.get(0)).seat = NONE;
        return v * weighed(gone, rest, v, i) + (10 - v) * weighed(w, rest, v, i);
    }

    private long odds(int v, int i, int what) {
        List<Integer> here = new ArrayList<>(now.here());
        long all = 1;
        for (int n = 0; n < here.size(); n++) {
            all *= 10;
        }
        return fraction(weighed(now, here, v, i), all, what);
    }

    long mean(int v, int what) {
        return v < 0 || v > 10 || what < 0 || what > 1 ? BAD : odds(v, NONE, what);
    }

    long luck(int v, int i, int what) {
        return v < 0 || v > 10 || !now.line(i) || what < 0 || what > 1 ? BAD : odds(v, i, what);
    }

    // ---- who sat where

    long see(int i, int p) {
        if (!now.line(i) || !(p == NONE || now.one(p))) {
            return BAD;
        }
        if (now.seen.size() == 8) {
            return FULL;
        }
        now.seen.add(new int[] {i, p});
        return now.seen.size();
    }

    long forget(int n) {
        if (n < 0 || n > now.seen.size()) {
            return BAD;
        }
        int had = now.seen.size();
        now.seen = new ArrayList<>(now.seen.subList(0, n));
        return had;
    }

    long fits(int what) {
        if (what != 0 && (what < 10 || !now.one(what - 10))) {
            return BAD;
        }
        int n = 0;
        TreeSet<Integer> seats = new TreeSet<>();
        for (World w : seatings()) {
            List<Integer> speakers = w.speakers();
            boolean fits = true;
            for (int[] seen : now.seen) {
                fits &= speakers.get(seen[0]) == seen[1];
            }
            if (fits) {
                n++;
                if (what != 0) {
                    seats.add(w.people.get(what - 10).seat);
                }
            }
        }
        int bits = 0;
        for (int s : seats) {
            bits += s == NONE ? 0 : 1 << s;
        }
        return what == 0 ? n : bits;
    }

    // ---- by a seed

    long drift(int seed, int n, int what) {
        if (n < 1 || n > 60 || what < 0 || what > 1) {
            return BAD;
        }
        if (now.people.isEmpty()) {
            return STATE;
        }
        World w = now.copy();
        long state = seed & 0xffffffffL;
        long sum = 0;
        for (int time = 0; time < n; time++) {
            state = (state * 1103515245L + 12345L) % (1L << 32);
            int p = (int) (state / 65536 % 32768 % w.people.size());
            state = (state * 1103515245L + 12345L) % (1L << 32);
            int s = (int) (state / 65536 % 32768 % (w.rows * w.places));
            if (w.at(s) == NONE) {
                w.people.get(p).seat = s;
            }
            sum += w.spoken();
        }
        return what == 0 ? sum : w.spoken();
    }

    // ---- images, sheets

    long keep(int k) {
        if (k < 0 || k > 1) {
            return BAD;
        }
        boolean was = images[k] != null;
        images[k] = now.copy();
        return was ? 1 : 0;
    }

    long back(int k) {
        if (k < 0 || k > 1) {
            return BAD;
        }
        if (images[k] == null) {
            return STATE;
        }
        now = images[k].copy();
        return now.spoken();
    }

    long sheet(int k, int lane, int n) {
        if (k < 0 || k > 3 || lane < 0 || lane > 2 || n > 40) {
            return BAD;
        }
        try {
            sheets[k] = lane == 0 ? new byte[n] : lane == 1 ? (Object) new short[n] : new int[n];
            return 1;
        } catch (NegativeArraySizeException e) {
            return -14;
        }
    }

    long lay(int k, int i, int v) {
        if (k < 0 || k > 3) {
            return BAD;
        }
        try {
            if (sheets[k] instanceof byte[]) {
                ((byte[]) sheets[k])[i] = (byte) v;
            } else if (sheets[k] instanceof short[]) {
                ((short[]) sheets[k])[i] = (short) v;
            } else {
                ((int[]) sheets[k])[i] = v;
            }
            return 1;
        } catch (NullPointerException e) {
            return -11;
        } catch (ArrayIndexOutOfBoundsException e) {
            return -12;
        }
    }

    private int cell(int k, int lane, int i) {
        return lane == 0 ? ((byte[]) sheets[k])[i]
                : lane == 1 ? ((short[]) sheets[k])[i] : ((int[]) sheets[k])[i];
    }

    long read(int k, int lane, int f, int n) {
        if (k < 0 || k > 3 || lane < 0 || lane > 2 || n < 0 || n > 20) {
            return BAD;
        }
        World w = now.copy();
        int came = 0;
        int found = 0;
        try {
            while (came < n) {
                int p = cell(k, lane, f + 2 * came);
                int s = cell(k, lane, f + 2 * came + 1);
                int answer = w.sit(p, s);
                if (answer == BAD || answer == STATE) {
                    return -20 - came;
                }
                came++;
            }
        } catch (NullPointerException e) {
            found = 1;
        } catch (ArrayIndexOutOfBoundsException e) {
            found = 2;
        } catch (ClassCastException e) {
            found = 3;
        }
        now = w;
        torn = found;
        return came;
    }

    long torn() {
        return torn;
    }

    long count(int what) {
        switch (what) {
            case 0:
                return now.here().size();
            case 1:
                return now.parts.size();
            case 2:
                return now.seen.size();
            case 3:
                return (images[0] == null ? 0 : 1) + (images[1] == null ? 0 : 1);
            case 4:
                return tape.length();
            case 5:
                return sheets[0] == null ? NONE : java.lang.reflect.Array.getLength(sheets[0]);
            case 6:
                int scenes = 0;
                for (Line l : now.lines) {
                    scenes += l.opens ? 1 : 0;
                }
                return scenes;
            default:
                return BAD;
        }
    }
}
