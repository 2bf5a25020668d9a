/** Promises 34 to 37: who sat where, and by a seed. */
final class SeenTest {
    private static final Due DUE = new Due("SeenTest");
    private static final int NONE = SeatCast.NONE;
    private static final int BAD = SeatCast.BAD;

    public static void main(String[] args) {
        see();
        forget();
        fits();
        fitsOfMany();
        drift();
        driftRefused();
        DUE.close();
    }

    private static void see() {
        SeatCast x = Due.told("one 0 0 0;away 0 0;line 0;line 1;");
        DUE.due(34, "see(2, 0)", x.see(2, 0), BAD);
        DUE.due(34, "see(-1, 0)", x.see(-1, 0), BAD);
        DUE.due(34, "see(0, 2)", x.see(0, 2), BAD);
        DUE.due(34, "see(0, -1)", x.see(0, -1), BAD);
        DUE.due(34, "see(0, -5)", x.see(0, -5), BAD);
        DUE.due(34, "see(0, 0)", x.see(0, 0), 1);
        DUE.due(34, "see(0, 0), again", x.see(0, 0), 2);
        DUE.due(34, "see(0, NONE), against it", x.see(0, NONE), 3);
        DUE.due(34, "see(1, 1), one away", x.see(1, 1), 4);
        for (int n = 5; n <= 8; n++) {
            DUE.due(34, "see(1, NONE)", x.see(1, NONE), n);
        }
        DUE.due(34, "see(1, NONE), the ninth", x.see(1, NONE), SeatCast.FULL);
        DUE.due(34, "see(2, 0), full", x.see(2, 0), BAD);
        DUE.due(34, "count(2)", x.count(2), 8);
    }

    private static void forget() {
        SeatCast x = Due.told("house 1 2;part 0 0;one 0 0 0;line 0;");
        DUE.due(35, "forget(0)", x.forget(0), 0);
        DUE.due(35, "forget(1)", x.forget(1), BAD);
        x.see(0, 0);
        x.see(0, NONE);
        DUE.due(35, "fits(0)", x.fits(0), 0);
        DUE.due(35, "forget(3)", x.forget(3), BAD);
        DUE.due(35, "forget(-1)", x.forget(-1), BAD);
        DUE.due(35, "forget(2)", x.forget(2), 2);
        DUE.due(35, "forget(1)", x.forget(1), 2);
        DUE.due(35, "fits(10), the first one stays", x.fits(10), 1);
        DUE.due(35, "forget(2)", x.forget(2), BAD);
        DUE.due(35, "forget(0)", x.forget(0), 1);
        DUE.due(35, "count(2)", x.count(2), 0);
    }

    private static void fits() {
        SeatCast x = Due.told("house 1 3;part 1 0;one 0 0 0;one 2 0 0;away 5 0;line 0;");
        fitsAre(x, "nothing seen", 6, 7, 7, 0);
        x.see(0, 0);
        fitsAre(x, "0 spoke", 2, 2, 5, 0);
        x.see(0, NONE);
        fitsAre(x, "against it", 0, 0, 0, 0);
        x.forget(0);
        x.see(0, NONE);
        fitsAre(x, "nobody spoke", 2, 5, 5, 0);
        x.forget(0);
        x.see(0, 2);
        fitsAre(x, "one who is away spoke", 0, 0, 0, 0);
        for (int what : new int[] {-1, 1, 9, 13, Integer.MIN_VALUE, Integer.MAX_VALUE}) {
            DUE.due(36, "fits(" + what + ")", x.fits(what), BAD);
        }
        DUE.due(36, "one(0, 0), nothing is changed", x.one(0, 0), 0);
        SeatCast y = new SeatCast();
        DUE.due(36, "fits(0), nobody", y.fits(0), 1);
        DUE.due(36, "fits(10), nobody", y.fits(10), BAD);
    }

    private static void fitsOfMany() {
        SeatCast x = Due.told("house 3 4;one 0 0 0;one 1 0 0;one 2 0 0;one 3 0 0;line 0;");
        fitsAre(x, "12 11 10 9", 11880, 4095, 4095, 4095, 4095);
        x.part(11, 0);
        x.see(0, 3);
        fitsAre(x, "3 sits in 11", 990, 2047, 2047, 2047, 2048);
        x.part(11, 1);
        fitsAre(x, "3 can not have spoken", 0, 0, 0, 0, 0);
        x.forget(0);
        fitsAre(x, "a part without lines", 11880, 4095, 4095, 4095, 4095);
        // 0 in 0 or 1, and if in 1, nobody else in 0: 11 10 9 and 10 9 8
        SeatCast z = Due.told("house 3 4;part 0 0;part 1 0;one 0 0 0;one 1 0 0;one 2 0 0;one 3 0 0;"
                + "line 1;scene 0;");
        z.see(1, 0);
        z.see(0, NONE);
        fitsAre(z, "0 spoke the second", 990 + 720, 3, 4094, 4094, 4094);
        SeatCast y = Due.told("house 1 2;one 0 0 0;one 1 0 0;");
        fitsAre(y, "a full house", 2, 3, 3);
        y.sit(1, NONE);
        fitsAre(y, "one", 2, 3, 0);
    }

    /** The numbers drawn from seed 1 are 16838, 5758, 10113, 17515, 31051, 5627, 23010, 7419, 16212, 4086. */
    private static void drift() {
        SeatCast x = Due.told("house 1 2;part 0 0;one 1 0 0;line 0;");
        int[] sums = {1, 1, 1, 1, 2};
        int[] lasts = {1, 0, 0, 0, 1};
        for (int n = 1; n <= 5; n++) {
            DUE.due(37, "drift(1, " + n + ", 0)", x.drift(1, n, 0), sums[n - 1]);
            DUE.due(37, "drift(1, " + n + ", 1)", x.drift(1, n, 1), lasts[n - 1]);
        }
        DUE.due(37, "one(0, 0), nothing is changed", x.one(0, 0), 1);
        x.sit(0, NONE);
        DUE.due(37, "drift(1, 1, 0), away", x.drift(1, 1, 0), 1);
        DUE.due(37, "one(0, 0), nothing is changed", x.one(0, 0), NONE);
        // every seat speaks all three lines
        SeatCast y = Due.told("house 1 2;part 0 0;part 1 0;one 1 0 0;line 0;line 0;line 0;");
        DUE.due(37, "drift(MIN, 60, 0)", y.drift(Integer.MIN_VALUE, 60, 0), 180);
        DUE.due(37, "drift(-1, 60, 1)", y.drift(-1, 60, 1), 3);
        DUE.due(37, "drift(1, 0, 0)", y.drift(1, 0, 0), BAD);
        DUE.due(37, "drift(1, 61, 0)", y.drift(1, 61, 0), BAD);
        DUE.due(37, "drift(1, -1, 0)", y.drift(1, -1, 0), BAD);
        DUE.due(37, "drift(1, 1, 2)", y.drift(1, 1, 2), BAD);
        DUE.due(37, "drift(1, 1, -1)", y.drift(1, 1, -1), BAD);
        SeatCast z = new SeatCast();
        DUE.due(37, "drift(1, 1, 0), nobody", z.drift(1, 1, 0), SeatCast.STATE);
        DUE.due(37, "drift(1, 0, 0), nobody", z.drift(1, 0, 0), BAD);
        DUE.due(37, "drift(1, 61, 0), nobody", z.drift(1, 61, 0), BAD);
    }

    /** Seed 1, two people, three seats: 0 to 1, 1 to 1, 1 to 2, 0 to 0, 0 to 0. */
    private static void driftRefused() {
        SeatCast x = Due.told("house 1 3;part 1 0;one 0 0 0;one 1 0 9;line 0;");
        DUE.due(37, "drift(1, 1, 0), 1 is there", x.drift(1, 1, 0), 0);
        DUE.due(37, "drift(1, 5, 0), 1 is there", x.drift(1, 5, 0), 0);
        x.sit(1, NONE);
        int[] sums = {1, 2, 3, 3, 3};
        for (int n = 1; n <= 5; n++) {
            DUE.due(37, "drift(1, " + n + ", 0), 1 is away", x.drift(1, n, 0), sums[n - 1]);
        }
    }

    private static void fitsAre(SeatCast x, String when, int howMany, int... seats) {
        DUE.due(36, "fits(0), " + when, x.fits(0), howMany);
        for (int p = 0; p < seats.length; p++) {
            DUE.due(36, "fits(" + (10 + p) + "), " + when, x.fits(10 + p), seats[p]);
        }
    }
}
