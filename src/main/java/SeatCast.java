/**
 * Cast by one's seat: each seat of a house has a part, and who sits there speaks its lines.
 * What every call answers is told by the document's promises; README.md says where it is.
 */
public final class SeatCast {
    public static final int BAD = -1, STATE = -2, FULL = -3, NONE = -4;

    private static final int MOST_ROWS = 3;
    private static final int MOST_PLACES = 4;
    private static final int MOST_SEATS = 12;
    private static final int MOST_PEOPLE = 4;
    private static final int MOST_LINES = 8;
    private static final int MOST_SEEN = 8;
    private static final int MOST_BYTES = 160;
    private static final int MOST_CELLS = 40;
    private static final int MOST_PAIRS = 20;
    private static final int MOST_DRIFTS = 60;
    private static final int MOST_SEATINGS = 12 * 11 * 10 * 9;

    private static final int LAST_PART = 5;
    private static final int LAST_VOICE = 5;
    private static final int LAST_COMES = 9;
    private static final int LAST_LANE = 2;
    private static final int IMAGES = 2;
    private static final int SHEETS = 4;
    private static final int TENTHS = 10;

    private static final int STRICT = 0;
    private static final int SOFT = 1;

    private static final int NULL_FAULT = 1;
    private static final int INDEX_FAULT = 2;
    private static final int CAST_FAULT = 3;
    private static final int SIZE_FAULT = 4;

    /** Answers that tell a fault, the place of one, or a pair that was refused, lie below these. */
    private static final int BELOW_FAULT = -10;
    private static final int BELOW_PAIR = -20;

    /** What asks for a ONE stands at 10 and his number. */
    private static final int ASK_ONE = 10;

    private static final int[] ORDERS = {1, 1, 2, 6, 24};

    private final Reader reader;
    private final Tape tape;
    private final House house;
    private final House trial;
    private final Night show;
    private final Seatings seatings;
    private final House[] images;
    private final boolean[] kept;
    private final Sheet[] sheets;
    private int textFault;
    private int readFault;

    public SeatCast() {
        reader = new Reader();
        tape = reader.tape;
        house = new House();
        trial = new House();
        show = new Night();
        seatings = new Seatings();
        images = new House[IMAGES];
        kept = new boolean[IMAGES];
        for (int k = 0; k < IMAGES; k++) {
            images[k] = new House();
        }
        sheets = new Sheet[SHEETS];
        for (int k = 0; k < SHEETS; k++) {
            sheets[k] = new Sheet();
        }
    }

    // ---- the text

    public int feed(int c) {
        if (!isIn(c, 0, 127)) {
            return BAD;
        }
        return tape.add(c) ? tape.length : FULL;
    }

    public int end(int n) {
        if (!isIn(n, 0, tape.length)) {
            return BAD;
        }
        int had = tape.length;
        tape.length = n;
        return had;
    }

    public int text() {
        reader.tellAll();
        tape.length = 0;
        textFault = reader.fault;
        if (textFault != 0) {
            return BELOW_FAULT - reader.faultPlace;
        }
        house.copyFrom(reader.draft);
        for (int k = 0; k < IMAGES; k++) {
            kept[k] = false;
        }
        return reader.told;
    }

    public int fault() {
        return textFault;
    }

    public int rule(int what) {
        switch (what) {
            case 0:
                return house.rows;
            case 1:
                return house.places;
            case 2:
                return house.people;
            case 3:
                return house.lines;
            case 4:
                return house.law;
            default:
                return BAD;
        }
    }

    public int seat(int s, int what) {
        if (!house.hasSeat(s) || !isIn(what, 0, 1)) {
            return BAD;
        }
        return what == 0 ? house.partOfSeat[s] : house.whoSits(s);
    }

    public int one(int p, int what) {
        if (!house.hasOne(p)) {
            return BAD;
        }
        switch (what) {
            case 0:
                return house.seatOf[p];
            case 1:
                return house.voiceOf[p];
            case 2:
                return house.comesWith[p];
            case 3:
                return house.feudsOf[p];
            default:
                return BAD;
        }
    }

    public int line(int i, int what) {
        if (!house.hasLine(i) || !isIn(what, 0, 1)) {
            return BAD;
        }
        return what == 0 ? house.partOfLine[i] : oneIf(house.isOpening(i));
    }

    // ---- what is changed

    public int sit(int p, int s) {
        return house.moveOne(p, s);
    }

    public int swap(int p, int q) {
        if (!house.hasOne(p) || !house.hasOne(q) || p == q) {
            return BAD;
        }
        house.tradeSeats(p, q);
        return house.seatOf[p];
    }

    public int part(int s, int k) {
        if (!house.hasSeat(s) || k != NONE && !isIn(k, 0, LAST_PART)) {
            return BAD;
        }
        int was = house.partOfSeat[s];
        house.partOfSeat[s] = k;
        return was;
    }

    public int voice(int p, int v) {
        if (!house.hasOne(p) || !isIn(v, 0, LAST_VOICE)) {
            return BAD;
        }
        int was = house.voiceOf[p];
        house.voiceOf[p] = v;
        return was;
    }

    public int comes(int p, int i) {
        if (!house.hasOne(p) || !isIn(i, 0, LAST_COMES)) {
            return BAD;
        }
        int was = house.comesWith[p];
        house.comesWith[p] = i;
        return was;
    }

    public int feud(int p, int q, boolean is) {
        if (!house.hasOne(p) || !house.hasOne(q)) {
            return BAD;
        }
        int was = oneIf(house.isFeud(p, q));
        house.setFeud(p, q, is);
        return was;
    }

    public int law(int v) {
        if (!isIn(v, STRICT, SOFT)) {
            return BAD;
        }
        int was = house.law;
        house.law = v;
        return was;
    }

    public int opens(int i, boolean is) {
        if (!house.hasLine(i)) {
            return BAD;
        }
        int was = oneIf(house.isOpening(i));
        house.setOpening(i, is);
        return was;
    }

    // ---- a night

    public int far(int s, int t) {
        if (!house.hasSeat(s) || !house.hasSeat(t)) {
            return BAD;
        }
        return house.distance(s, t);
    }

    public int heard(int p) {
        if (!house.hasOne(p)) {
            return BAD;
        }
        return house.isAway(p) ? STATE : house.seatsInReach(p);
    }

    public int speaks(int i) {
        if (!house.hasLine(i)) {
            return BAD;
        }
        spokenNow();
        return show.speaker[i];
    }

    public int night(int what) {
        int spoken = spokenNow();
        switch (what) {
            case 0:
                return spoken;
            case 1:
                return show.spokenLines;
            case 2:
                return show.firstMissed(house);
            case 3:
                return show.wholeScenes(house);
            default:
                return BAD;
        }
    }

    public int says(int p) {
        if (!house.hasOne(p)) {
            return BAD;
        }
        spokenNow();
        int lines = 0;
        for (int i = 0; i < house.lines; i++) {
            lines += oneIf(show.speaker[i] == p);
        }
        return lines;
    }

    // ---- who should sit where

    public int best(int what) {
        if (what != 0 && !house.hasOne(what - ASK_ONE)) {
            return BAD;
        }
        trial.copyFrom(house);
        int most = NONE;
        seatings.begin(trial);
        boolean more = true;
        for (int n = 0; n < MOST_SEATINGS && more; n++) {
            int spoken = show.play(trial, 0, 0);
            if (spoken > most) {
                most = spoken;
                seatings.keepSeats(trial);
            }
            more = most < trial.lines && seatings.step(trial);
        }
        return what == 0 ? most : seatings.keptSeats[what - ASK_ONE];
    }

    public int change(int what) {
        if (!isIn(what, 0, 1)) {
            return BAD;
        }
        int most = spokenNow();
        int pair = NONE;
        for (int p = 0; p < house.people; p++) {
            for (int q = p + 1; q < house.people; q++) {
                trial.copyFrom(house);
                trial.tradeSeats(p, q);
                int spoken = show.play(trial, 0, 0);
                if (spoken > most) {
                    most = spoken;
                    pair = 10 * p + q;
                }
            }
        }
        return whichOrHowMany(what, pair, most);
    }

    public int role(int s, int what) {
        if (!house.hasSeat(s) || !isIn(what, 0, 1)) {
            return BAD;
        }
        int most = NONE;
        int part = NONE;
        trial.copyFrom(house);
        for (int k = 0; k <= LAST_PART; k++) {
            trial.partOfSeat[s] = k;
            int spoken = show.play(trial, 0, 0);
            if (spoken > most) {
                most = spoken;
                part = k;
            }
        }
        return whichOrHowMany(what, part, most);
    }

    public int cut(int what) {
        if (!isIn(what, 0, 1)) {
            return BAD;
        }
        int allLines = bitsBelow(house.lines);
        int least = allLines;
        for (int some = 0; some < allLines; some++) {
            int size = Integer.bitCount(some);
            // the rising numbers meet the least set of each size first
            if (size < Integer.bitCount(least)
                    && show.play(house, 0, some) == house.lines - size) {
                least = some;
            }
        }
        return what == 0 ? Integer.bitCount(least) : least;
    }

    public int louder(int p, int what) {
        if (!house.hasOne(p) || !isIn(what, 0, 1)) {
            return BAD;
        }
        int now = spokenNow();
        trial.copyFrom(house);
        for (int v = 0; v <= LAST_VOICE; v++) {
            trial.voiceOf[p] = v;
            int spoken = show.play(trial, 0, 0);
            if (spoken > now) {
                return what == 0 ? v : spoken;
            }
        }
        return NONE;
    }

    public int peace(int what) {
        if (!isIn(what, 0, 1)) {
            return BAD;
        }
        int most = spokenNow();
        int pair = NONE;
        for (int p = 0; p < house.people; p++) {
            for (int q = 0; q < house.people; q++) {
                int spoken = house.isFeud(p, q) ? spokenInPeace(p, q) : 0;
                if (spoken > most) {
                    most = spoken;
                    pair = 10 * p + q;
                }
            }
        }
        return whichOrHowMany(what, pair, most);
    }

    // ---- who is missed

    public int without(int some) {
        if (!isIn(some, 0, bitsBelow(house.people))) {
            return BAD;
        }
        return show.play(house, some, 0);
    }

    public int row(int what) {
        if (!isIn(what, 0, 1)) {
            return BAD;
        }
        int fewest = MOST_LINES + 1;
        int first = NONE;
        for (int r = 0; r < house.rows; r++) {
            int spoken = show.play(house, house.peopleOfRow(r), 0);
            if (spoken < fewest) {
                fewest = spoken;
                first = r;
            }
        }
        return whichOrHowMany(what, first, fewest);
    }

    public long share(int p, int what) {
        if (!house.hasOne(p) || !isIn(what, 0, 1)) {
            return BAD;
        }
        if (house.isAway(p)) {
            return lowestTerms(0, 1, what);
        }
        int others = house.peopleHere() & ~(1 << p);
        int behindAll = Integer.bitCount(others);
        long sum = 0;
        for (int ahead = 0; ahead <= others; ahead++) {
            if ((ahead & ~others) == 0) {
                int before = Integer.bitCount(ahead);
                int orders = ORDERS[before] * ORDERS[behindAll - before];
                sum += orders * (spokenBy(ahead | 1 << p) - spokenBy(ahead));
            }
        }
        return lowestTerms(sum, ORDERS[behindAll + 1], what);
    }

    public long mean(int v, int what) {
        if (!isIn(v, 0, TENTHS) || !isIn(what, 0, 1)) {
            return BAD;
        }
        return spokenByOdds(v, bitsBelow(house.lines), what);
    }

    public long luck(int v, int i, int what) {
        if (!isIn(v, 0, TENTHS) || !house.hasLine(i) || !isIn(what, 0, 1)) {
            return BAD;
        }
        return spokenByOdds(v, 1 << i, what);
    }

    // ---- who sat where

    public int see(int i, int p) {
        if (!house.hasLine(i) || p != NONE && !house.hasOne(p)) {
            return BAD;
        }
        return house.addSeen(i, p) ? house.seen : FULL;
    }

    public int forget(int n) {
        if (!isIn(n, 0, house.seen)) {
            return BAD;
        }
        int had = house.seen;
        house.seen = n;
        return had;
    }

    public int fits(int what) {
        int p = what - ASK_ONE;
        if (what != 0 && !house.hasOne(p)) {
            return BAD;
        }
        int found = 0;
        int seats = 0;
        trial.copyFrom(house);
        seatings.begin(trial);
        boolean more = true;
        for (int n = 0; n < MOST_SEATINGS && more; n++) {
            show.play(trial, 0, 0);
            if (show.isAsSeen(trial)) {
                found += seatings.alike(trial);
                seats |= what == 0 ? 0 : seatings.seatsAlike(trial, p);
            }
            more = seatings.step(trial);
        }
        return what == 0 ? found : seats;
    }

    // ---- by a seed

    public int drift(int seed, int n, int what) {
        if (!isIn(n, 1, MOST_DRIFTS) || !isIn(what, 0, 1)) {
            return BAD;
        }
        if (house.people == 0) {
            return STATE;
        }
        trial.copyFrom(house);
        int turning = seed;
        int sum = 0;
        int last = 0;
        for (int time = 0; time < n; time++) {
            turning = nextSeed(turning);
            int p = drawn(turning, trial.people);
            turning = nextSeed(turning);
            // a SEAT where another one is refuses him, and he stays where he was
            trial.moveOne(p, drawn(turning, trial.seats()));
            last = show.play(trial, 0, 0);
            sum += last;
        }
        return what == 0 ? sum : last;
    }

    // ---- images, sheets

    public int keep(int k) {
        if (!isIn(k, 0, IMAGES - 1)) {
            return BAD;
        }
        int was = oneIf(kept[k]);
        images[k].copyFrom(house);
        kept[k] = true;
        return was;
    }

    public int back(int k) {
        if (!isIn(k, 0, IMAGES - 1)) {
            return BAD;
        }
        if (!kept[k]) {
            return STATE;
        }
        house.copyFrom(images[k]);
        return spokenNow();
    }

    public int sheet(int k, int lane, int n) {
        if (!isIn(k, 0, SHEETS - 1) || !isIn(lane, 0, LAST_LANE) || n > MOST_CELLS) {
            return BAD;
        }
        if (n < 0) {
            return BELOW_FAULT - SIZE_FAULT;
        }
        sheets[k].renew(lane, n);
        return 1;
    }

    public int lay(int k, int i, int v) {
        if (!isIn(k, 0, SHEETS - 1)) {
            return BAD;
        }
        Sheet sheet = sheets[k];
        int found = sheet.faultAt(sheet.lane, i);
        if (found != 0) {
            return BELOW_FAULT - found;
        }
        sheet.write(i, v);
        return 1;
    }

    public int read(int k, int lane, int f, int n) {
        if (!isIn(k, 0, SHEETS - 1) || !isIn(lane, 0, LAST_LANE) || !isIn(n, 0, MOST_PAIRS)) {
            return BAD;
        }
        Sheet sheet = sheets[k];
        int found = 0;
        int came = 0;
        trial.copyFrom(house);
        for (int i = 0; i < n && found == 0; i++) {
            int at = f + 2 * i;
            found = sheet.faultOfPair(lane, at);
            if (found == 0) {
                if (isRefused(trial.moveOne(sheet.cells[at], sheet.cells[at + 1]))) {
                    return BELOW_PAIR - i;
                }
                came++;
            }
        }
        house.copyFrom(trial);
        readFault = found;
        return came;
    }

    public int torn() {
        return readFault;
    }

    public int count(int what) {
        switch (what) {
            case 0:
                return Integer.bitCount(house.peopleHere());
            case 1:
                return house.seatsWithPart();
            case 2:
                return house.seen;
            case 3:
                return oneIf(kept[0]) + oneIf(kept[1]);
            case 4:
                return tape.length;
            case 5:
                return sheets[0].lane == NONE ? NONE : sheets[0].size;
            case 6:
                return Integer.bitCount(house.openings);
            default:
                return BAD;
        }
    }

    // ---- what the calls share

    private int spokenNow() {
        return show.play(house, 0, 0);
    }

    private int spokenBy(int people) {
        return show.play(house, ~people, 0);
    }

    private int spokenInPeace(int p, int q) {
        trial.copyFrom(house);
        trial.setFeud(p, q, false);
        return show.play(trial, 0, 0);
    }

    private long spokenByOdds(int v, int lines, int what) {
        int here = house.peopleHere();
        int people = Integer.bitCount(here);
        long sum = 0;
        for (int gone = 0; gone <= here; gone++) {
            if ((gone & ~here) == 0) {
                int away = Integer.bitCount(gone);
                show.play(house, gone, 0);
                sum += power(v, away) * power(TENTHS - v, people - away)
                        * Integer.bitCount(show.spokenLines & lines);
            }
        }
        return lowestTerms(sum, power(TENTHS, people), what);
    }

    private static int whichOrHowMany(int what, int which, int howMany) {
        return what == 0 || which == NONE ? which : howMany;
    }

    private static boolean isRefused(int answer) {
        return answer == BAD || answer == STATE;
    }

    private static boolean isIn(int value, int low, int high) {
        return low <= value && value <= high;
    }

    private static int oneIf(boolean is) {
        return is ? 1 : 0;
    }

    private static int bitsBelow(int n) {
        return (1 << n) - 1;
    }

    private static int nextSeed(int seed) {
        return seed * 1103515245 + 12345;
    }

    private static int drawn(int seed, int outOf) {
        return outOf <= 0 ? 0 : (seed >>> 16 & 0x7fff) % outOf;
    }

    private static long power(int base, int n) {
        long product = 1;
        for (int i = 0; i < n; i++) {
            product *= base;
        }
        return product;
    }

    /** The numerator (what 0) or the denominator (1) of a fraction whose bottom is above 0. */
    private static long lowestTerms(long top, long bottom, int what) {
        long divisor = commonDivisor(Math.abs(top), bottom);
        if (divisor == 0) {
            return what;
        }
        return what == 0 ? top / divisor : bottom / divisor;
    }

    private static long commonDivisor(long a, long b) {
        long left = a;
        long right = b;
        // a step of Euclid's halves the product at least, so 128 are enough for any two longs
        for (int step = 0; step < 128 && right != 0; step++) {
            long rest = left % right;
            left = right;
            right = rest;
        }
        return left;
    }

    /** All that a text tells and that later calls change; a copy of it is an image or a trial. */
    private static final class House {
        private int rows;
        private int places;
        private int law;
        private int people;
        private int lines;
        private int openings;
        private int seen;
        // kept beside each SEAT, so that the many nights of a search need no division
        private final int[] rowOf = new int[MOST_SEATS];
        private final int[] placeOf = new int[MOST_SEATS];
        private final int[] partOfSeat = new int[MOST_SEATS];
        private final int[] seatOf = new int[MOST_PEOPLE];
        private final int[] voiceOf = new int[MOST_PEOPLE];
        private final int[] comesWith = new int[MOST_PEOPLE];
        private final int[] feudsOf = new int[MOST_PEOPLE];
        private final int[] partOfLine = new int[MOST_LINES];
        private final int[] seenLine = new int[MOST_SEEN];
        private final int[] seenWho = new int[MOST_SEEN];

        House() {
            clear();
        }

        void clear() {
            setShape(2, 3);
            law = STRICT;
            people = 0;
            lines = 0;
            openings = 0;
            seen = 0;
            for (int s = 0; s < MOST_SEATS; s++) {
                partOfSeat[s] = NONE;
            }
        }

        void setShape(int newRows, int newPlaces) {
            rows = newRows;
            places = newPlaces;
            int s = 0;
            for (int r = 0; r < rows; r++) {
                for (int c = 0; c < places && s < MOST_SEATS; c++) {
                    rowOf[s] = r;
                    placeOf[s] = c;
                    s++;
                }
            }
        }

        void copyFrom(House other) {
            rows = other.rows;
            places = other.places;
            law = other.law;
            people = other.people;
            lines = other.lines;
            openings = other.openings;
            seen = other.seen;
            System.arraycopy(other.rowOf, 0, rowOf, 0, MOST_SEATS);
            System.arraycopy(other.placeOf, 0, placeOf, 0, MOST_SEATS);
            System.arraycopy(other.partOfSeat, 0, partOfSeat, 0, MOST_SEATS);
            System.arraycopy(other.seatOf, 0, seatOf, 0, MOST_PEOPLE);
            System.arraycopy(other.voiceOf, 0, voiceOf, 0, MOST_PEOPLE);
            System.arraycopy(other.comesWith, 0, comesWith, 0, MOST_PEOPLE);
            System.arraycopy(other.feudsOf, 0, feudsOf, 0, MOST_PEOPLE);
            System.arraycopy(other.partOfLine, 0, partOfLine, 0, MOST_LINES);
            System.arraycopy(other.seenLine, 0, seenLine, 0, MOST_SEEN);
            System.arraycopy(other.seenWho, 0, seenWho, 0, MOST_SEEN);
        }

        int seats() {
            return rows * places;
        }

        boolean hasSeat(int s) {
            return isIn(s, 0, seats() - 1);
        }

        boolean hasOne(int p) {
            return isIn(p, 0, people - 1);
        }

        boolean hasLine(int i) {
            return isIn(i, 0, lines - 1);
        }

        boolean isAway(int p) {
            return seatOf[p] == NONE;
        }

        boolean isFeud(int p, int q) {
            return (feudsOf[p] >> q & 1) != 0;
        }

        void setFeud(int p, int q, boolean is) {
            feudsOf[p] = is ? feudsOf[p] | 1 << q : feudsOf[p] & ~(1 << q);
        }

        boolean isOpening(int i) {
            return (openings >> i & 1) != 0;
        }

        void setOpening(int i, boolean is) {
            openings = is || i == 0 ? openings | 1 << i : openings & ~(1 << i);
        }

        int whoSits(int s) {
            for (int p = 0; p < people; p++) {
                if (seatOf[p] == s) {
                    return p;
                }
            }
            return NONE;
        }

        /** A ONE goes to a SEAT or away: where he was; or BAD or STATE, and nothing changes. */
        int moveOne(int p, int s) {
            if (!hasOne(p) || s != NONE && !hasSeat(s)) {
                return BAD;
            }
            int sitter = s == NONE ? NONE : whoSits(s);
            if (sitter != NONE && sitter != p) {
                return STATE;
            }
            int was = seatOf[p];
            seatOf[p] = s;
            return was;
        }

        void tradeSeats(int p, int q) {
            int was = seatOf[p];
            seatOf[p] = seatOf[q];
            seatOf[q] = was;
        }

        int distance(int s, int t) {
            return Math.abs(rowOf[s] - rowOf[t]) + Math.abs(placeOf[s] - placeOf[t]);
        }

        int seatsInReach(int p) {
            int reached = 0;
            for (int s = 0; s < seats(); s++) {
                if (distance(seatOf[p], s) <= voiceOf[p]) {
                    reached |= 1 << s;
                }
            }
            return reached;
        }

        int peopleHere() {
            int here = 0;
            for (int p = 0; p < people; p++) {
                here |= isAway(p) ? 0 : 1 << p;
            }
            return here;
        }

        int peopleOfRow(int r) {
            int found = 0;
            for (int p = 0; p < people; p++) {
                if (!isAway(p) && rowOf[seatOf[p]] == r) {
                    found |= 1 << p;
                }
            }
            return found;
        }

        /** SEATS that have the PART of no LINE (bits). */
        int idleSeats() {
            int spokenParts = 0;
            for (int i = 0; i < lines; i++) {
                spokenParts |= 1 << partOfLine[i];
            }
            int idle = 0;
            for (int s = 0; s < seats(); s++) {
                int k = partOfSeat[s];
                idle |= k == NONE || (spokenParts >> k & 1) == 0 ? 1 << s : 0;
            }
            return idle;
        }

        int seatsWithPart() {
            int found = 0;
            for (int s = 0; s < seats(); s++) {
                found += oneIf(partOfSeat[s] != NONE);
            }
            return found;
        }

        void addOne(int s, int v, int with, int feuds) {
            if (people < MOST_PEOPLE) {
                seatOf[people] = s;
                voiceOf[people] = v;
                comesWith[people] = with;
                feudsOf[people] = feuds;
                people++;
            }
        }

        void addLine(int k, boolean opening) {
            if (lines < MOST_LINES) {
                partOfLine[lines] = k;
                setOpening(lines, opening);
                lines++;
            }
        }

        boolean addSeen(int i, int p) {
            if (seen >= MOST_SEEN) {
                return false;
            }
            seenLine[seen] = i;
            seenWho[seen] = p;
            seen++;
            return true;
        }
    }

    /** The latest NIGHT that was played: who spoke each LINE. */
    private static final class Night {
        private final int[] speaker = new int[MOST_LINES];
        private int spokenLines;

        /** How many LINES are SPOKEN while some PEOPLE are away and some LINES are cut (bits). */
        int play(House h, int away, int cutLines) {
            // NONE at the opening of a SCENE too: there, as behind a silence, nobody is answered
            int ahead = NONE;
            boolean lost = false;
            spokenLines = 0;
            for (int i = 0; i < h.lines; i++) {
                if (h.isOpening(i)) {
                    ahead = NONE;
                    lost = false;
                }
                speaker[i] = NONE;
                if ((cutLines >> i & 1) == 0) {
                    ahead = lost ? NONE : speakerOf(h, i, ahead, away);
                    speaker[i] = ahead;
                    if (ahead == NONE) {
                        lost = h.law == STRICT;
                    } else {
                        spokenLines |= 1 << i;
                    }
                }
            }
            return Integer.bitCount(spokenLines);
        }

        private static int speakerOf(House h, int i, int ahead, int away) {
            int who = NONE;
            int least = MOST_SEATS;
            for (int p = 0; p < h.people; p++) {
                int s = h.seatOf[p];
                if (s != NONE && s < least && h.partOfSeat[s] == h.partOfLine[i]
                        && h.comesWith[p] <= i && (away >> p & 1) == 0
                        && (ahead == NONE || answers(h, p, ahead))) {
                    who = p;
                    least = s;
                }
            }
            return who;
        }

        private static boolean answers(House h, int p, int ahead) {
            return h.distance(h.seatOf[p], h.seatOf[ahead]) <= h.voiceOf[ahead]
                    && !h.isFeud(p, ahead);
        }

        int firstMissed(House h) {
            for (int i = 0; i < h.lines; i++) {
                if (speaker[i] == NONE) {
                    return i;
                }
            }
            return NONE;
        }

        int wholeScenes(House h) {
            int whole = 0;
            boolean broken = false;
            for (int i = 0; i < h.lines; i++) {
                if (h.isOpening(i)) {
                    whole++;
                    broken = false;
                }
                if (speaker[i] == NONE && !broken) {
                    whole--;
                    broken = true;
                }
            }
            return whole;
        }

        boolean isAsSeen(House h) {
            for (int n = 0; n < h.seen; n++) {
                if (speaker[h.seenLine[n]] != h.seenWho[n]) {
                    return false;
                }
            }
            return true;
        }
    }

    /**
     * Walks a house through its SEATINGS, by PEOPLE, SEATS by numbers. Who sits in an idle SEAT
     * speaks nothing, whichever of them it is: so each takes but the first of those that are free,
     * and a SEATING stands for all that differ from it by idle SEATS alone, the first of them.
     */
    private static final class Seatings {
        private final int[] movers = new int[MOST_PEOPLE];
        private final int[] keptSeats = new int[MOST_PEOPLE];
        private int moving;
        private int idle;

        void begin(House h) {
            idle = h.idleSeats();
            moving = 0;
            for (int p = 0; p < h.people; p++) {
                if (!h.isAway(p)) {
                    movers[moving] = p;
                    moving++;
                }
            }
            seatFrom(h, 0);
        }

        /** The next SEATING; false: there is none. */
        boolean step(House h) {
            for (int m = moving - 1; m >= 0; m--) {
                int p = movers[m];
                int s = freeSeat(h, m, h.seatOf[p] + 1);
                if (s != NONE) {
                    h.seatOf[p] = s;
                    seatFrom(h, m + 1);
                    return true;
                }
            }
            return false;
        }

        void keepSeats(House h) {
            System.arraycopy(h.seatOf, 0, keptSeats, 0, MOST_PEOPLE);
        }

        /** How many SEATINGS this one stands for. */
        int alike(House h) {
            int free = Integer.bitCount(idle);
            int ways = 1;
            for (int m = 0; m < moving; m++) {
                if (isIdle(h.seatOf[movers[m]])) {
                    ways *= free;
                    free--;
                }
            }
            return ways;
        }

        /** SEATS of a ONE by the SEATINGS that this one stands for (bits). */
        int seatsAlike(House h, int p) {
            if (h.isAway(p)) {
                return 0;
            }
            return isIdle(h.seatOf[p]) ? idle : 1 << h.seatOf[p];
        }

        private boolean isIdle(int s) {
            return (idle >> s & 1) != 0;
        }

        private void seatFrom(House h, int firstMover) {
            for (int m = firstMover; m < moving; m++) {
                h.seatOf[movers[m]] = freeSeat(h, m, 0);
            }
        }

        /** The least SEAT from one on that the m-th mover may take behind those ahead of him. */
        private int freeSeat(House h, int m, int from) {
            int taken = 0;
            for (int other = 0; other < m; other++) {
                taken |= 1 << h.seatOf[movers[other]];
            }
            int freeIdle = idle & ~taken;
            int firstIdle = freeIdle & -freeIdle;
            int free = ~(idle | taken) | firstIdle;
            for (int s = from; s < h.seats(); s++) {
                if ((free >> s & 1) != 0) {
                    return s;
                }
            }
            return NONE;
        }
    }

    /** A row of cells of one lane, or nothing. */
    private static final class Sheet {
        private final int[] cells = new int[MOST_CELLS];
        private int lane = NONE;
        private int size;

        void renew(int newLane, int n) {
            lane = newLane;
            size = n;
            for (int i = 0; i < MOST_CELLS; i++) {
                cells[i] = 0;
            }
        }

        void write(int i, int v) {
            switch (lane) {
                case 0:
                    cells[i] = (byte) v;
                    break;
                case 1:
                    cells[i] = (short) v;
                    break;
                default:
                    cells[i] = v;
                    break;
            }
        }

        /** What a machine would find that takes the sheet as of a lane and asks for a cell. */
        int faultAt(int asLane, int i) {
            if (lane == NONE) {
                return NULL_FAULT;
            }
            if (lane != asLane) {
                return CAST_FAULT;
            }
            return isIn(i, 0, size - 1) ? 0 : INDEX_FAULT;
        }

        int faultOfPair(int asLane, int i) {
            int found = faultAt(asLane, i);
            return found != 0 ? found : faultAt(asLane, i + 1);
        }
    }

    /** The bytes that were fed. */
    private static final class Tape {
        private final byte[] bytes = new byte[MOST_BYTES];
        private int length;

        boolean add(int c) {
            if (length >= MOST_BYTES) {
                return false;
            }
            bytes[length] = (byte) c;
            length++;
            return true;
        }
    }

    /** Reads a tape into a draft, token by token, up to its end or its first fault. */
    private static final class Reader {
        private static final int NO_TOKEN = 1;
        private static final int MISPLACED = 2;
        private static final int OUT_OF_BOUNDS = 3;
        private static final int AGAIN = 4;
        private static final int TOO_MANY = 5;
        private static final int NOT_THERE = 6;

        private static final int AT_END = 0;
        private static final int NAME = 1;
        private static final int NUMBER = 2;
        private static final int SIGN = 3;
        private static final int MOST_FIGURES = 2;

        private final Tape tape = new Tape();
        private final House draft = new House();
        private int told;
        private int fault;
        private int faultPlace;
        private int next;
        private int kind;
        private int start;
        private int value;
        private boolean houseTold;
        private boolean softTold;
        private int partsTold;

        void tellAll() {
            draft.clear();
            told = 0;
            fault = 0;
            faultPlace = 0;
            next = 0;
            houseTold = false;
            softTold = false;
            partsTold = 0;
            takeToken();
            // each line has a byte at least
            for (int n = 0; n < MOST_BYTES && fault == 0 && kind != AT_END; n++) {
                tellLine();
                told++;
                takeToken();
            }
            // the token taken last is the end, so that the fault's place is the length
            failIf(isBeyondHouse(), NOT_THERE);
        }

        private void tellLine() {
            if (isName("house")) {
                tellHouse();
            } else if (isName("part")) {
                tellPart();
            } else if (isName("one")) {
                tellOne(true);
            } else if (isName("away")) {
                tellOne(false);
            } else if (isName("line")) {
                tellSpoken(false);
            } else if (isName("scene")) {
                tellSpoken(true);
            } else if (isName("soft")) {
                tellSoft();
            } else {
                failIf(true, MISPLACED);
            }
        }

        private void tellHouse() {
            failIf(houseTold, AGAIN);
            int rows = takeNumber(1, MOST_ROWS);
            int places = takeNumber(2, MOST_PLACES);
            takeSign();
            if (fault == 0) {
                houseTold = true;
                draft.setShape(rows, places);
            }
        }

        private void tellPart() {
            int s = takeNumber(0, MOST_SEATS - 1);
            failIf((partsTold >> s & 1) != 0, AGAIN);
            int k = takeNumber(0, LAST_PART);
            takeSign();
            if (fault == 0) {
                partsTold |= 1 << s;
                draft.partOfSeat[s] = k;
            }
        }

        private void tellOne(boolean isHere) {
            failIf(draft.people >= MOST_PEOPLE, TOO_MANY);
            int s = NONE;
            if (isHere) {
                s = takeNumber(0, MOST_SEATS - 1);
                failIf(draft.whoSits(s) != NONE, AGAIN);
            }
            int v = takeNumber(0, LAST_VOICE);
            int with = takeNumber(0, LAST_COMES);
            int feuds = takeFeuds();
            if (fault == 0) {
                draft.addOne(s, v, with, feuds);
            }
        }

        private void tellSpoken(boolean opening) {
            failIf(draft.lines >= MOST_LINES, TOO_MANY);
            int k = takeNumber(0, LAST_PART);
            takeSign();
            if (fault == 0) {
                draft.addLine(k, opening);
            }
        }

        private void tellSoft() {
            failIf(softTold, AGAIN);
            takeSign();
            if (fault == 0) {
                softTold = true;
                draft.law = SOFT;
            }
        }

        private boolean isBeyondHouse() {
            if (partsTold >> draft.seats() != 0) {
                return true;
            }
            for (int p = 0; p < draft.people; p++) {
                if (draft.seatOf[p] >= draft.seats() || draft.feudsOf[p] >> draft.people != 0) {
                    return true;
                }
            }
            return false;
        }

        /** A fault of the token taken last; the first one stays, and nothing is taken behind it. */
        private void failIf(boolean is, int which) {
            if (is && fault == 0) {
                fault = which;
                faultPlace = start;
            }
        }

        private int takeNumber(int low, int high) {
            takeToken();
            return numberWithin(low, high);
        }

        private int numberWithin(int low, int high) {
            failIf(kind != NUMBER, MISPLACED);
            failIf(!isIn(value, low, high), OUT_OF_BOUNDS);
            return fault == 0 ? value : 0;
        }

        private void takeSign() {
            takeToken();
            failIf(kind != SIGN, MISPLACED);
        }

        /** The numbers up to the sign, and the sign. */
        private int takeFeuds() {
            int feuds = 0;
            takeToken();
            // each ONE can be told but once: at most a number more than there are PEOPLE is taken
            for (int n = 0; n <= MOST_PEOPLE && fault == 0 && kind != SIGN; n++) {
                int q = numberWithin(0, MOST_PEOPLE - 1);
                failIf((feuds >> q & 1) != 0, AGAIN);
                feuds |= 1 << q;
                takeToken();
            }
            return feuds;
        }

        private void takeToken() {
            if (fault != 0) {
                return;
            }
            while (next < tape.length && tape.bytes[next] == ' ') {
                next++;
            }
            start = next;
            if (next >= tape.length) {
                kind = AT_END;
                return;
            }
            int c = tape.bytes[next];
            if (c == ';') {
                kind = SIGN;
                next++;
            } else if (isIn(c, 'a', 'z')) {
                kind = NAME;
                skipBytes('a', 'z');
            } else if (isIn(c, '0', '9')) {
                kind = NUMBER;
                skipBytes('0', '9');
                value = numberAt(start, next);
                failIf(next - start > MOST_FIGURES, NO_TOKEN);
            } else {
                failIf(true, NO_TOKEN);
            }
        }

        private void skipBytes(int low, int high) {
            while (next < tape.length && tape.bytes[next] >= low && tape.bytes[next] <= high) {
                next++;
            }
        }

        private int numberAt(int from, int to) {
            int number = 0;
            for (int at = from; at < to; at++) {
                number = 10 * number + tape.bytes[at] - '0';
            }
            return number;
        }

        private boolean isName(String word) {
            if (kind != NAME || next - start != word.length()) {
                return false;
            }
            for (int n = 0; n < word.length(); n++) {
                if (tape.bytes[start + n] != word.charAt(n)) {
                    return false;
                }
            }
            return true;
        }
    }
}
