/** Promises 19 to 25: ways home, how likely, traps, rounds, strangers, years by a seed. */
public final class WouldBeTest {
    private static final int NONE = GivenGoesOn.NONE, UNKNOWN = GivenGoesOn.UNKNOWN;
    private static final int OUTSIDE = GivenGoesOn.OUTSIDE, STATE = GivenGoesOn.STATE;
    private static final Check check = new Check("WouldBeTest");

    public static void main(String[] args) {
        waysInARing();
        waysAmongAll();
        waysBack();
        waysDoNotKeepOrBreak();
        waysRefused();
        likelyInARing();
        likelyWithChoices();
        likelyRefused();
        traps();
        rounds();
        roundsOfLikeLiking();
        noRound();
        strangers();
        strangersRefused();
        drawnLeavesAllAsItIs();
        drawnByTheSeed();
        drawnRefused();
        check.end();
    }

    private static GivenGoesOn ring(GivenGoesOn x, int many) {
        for (int i = 0; i < many; i++) x.person(0);
        for (int i = 0; i < many; i++) x.know(i, (i + 1) % many, true);
        return x;
    }

    private static GivenGoesOn allKnowAll(int many) {
        GivenGoesOn x = new GivenGoesOn();
        for (int i = 0; i < many; i++) x.person(0);
        for (int a = 0; a < many; a++) {
            for (int b = 0; b < a; b++) x.know(a, b, true);
        }
        return x;
    }

    private static void die(GivenGoesOn x, int gift, int... path) {
        for (int p : path) x.give(gift, p);
    }

    private static void waysInARing() {
        GivenGoesOn x = ring(new GivenGoesOn(), 5);
        x.gift(0, 0);
        for (int n = 1; n <= 8; n++) check.due("19: ring, " + n, x.ways(0, n), n == 5 ? 2 : 0);
        check.due("20: ring", x.soonest(0), 5);
        x.give(0, 1);
        for (int n = 1; n <= 8; n++) check.due("19: on its way, " + n, x.ways(0, n), n == 4 ? 1 : 0);
        check.due("20: on its way", x.soonest(0), 4);
        GivenGoesOn y = Check.chain(Check.people(new GivenGoesOn(), 0, 0, 0), 0, 1, 2);
        y.gift(0, 0);
        check.due("20: never", y.soonest(0), NONE);
        GivenGoesOn z = Check.people(new GivenGoesOn(), 0);
        z.gift(0, 0);
        check.due("20: alone", z.soonest(0), NONE);
        check.due("19: alone", z.ways(0, 8), 0);
        GivenGoesOn far = ring(new GivenGoesOn(), 8);
        far.gift(0, 3);
        check.due("20: eight", far.soonest(0), 8);
        check.due("19: eight", far.ways(0, 8), 2);
    }

    private static void waysAmongAll() {
        GivenGoesOn x = allKnowAll(4);
        x.gift(2, 0);
        // 3 first, then 2 others or home: home just once, at the end
        check.due("19: two", x.ways(0, 2), 0);
        check.due("19: three", x.ways(0, 3), 6);
        check.due("19: four", x.ways(0, 4), 6);
        check.due("19: eight", x.ways(0, 8), 6);
        GivenGoesOn y = allKnowAll(8);
        y.gift(0, 7);
        check.due("19: eight of eight", y.ways(0, 8), 131250);
    }

    private static void waysBack() {
        GivenGoesOn x = Check.chain(Check.people(Check.withLaw("b"), 0, 0, 0), 0, 1, 2);
        x.gift(0, 0);
        check.due("19: there and back", x.ways(0, 4), 1);
        check.due("20: there and back", x.soonest(0), 4);
        check.due("21: there and back", x.likely(0, 4, 0), 1);
        check.due("21: sure", x.likely(0, 4, 1), 1);
        check.due("21: not sooner", x.likely(0, 3, 0), 0);
    }

    private static void waysDoNotKeepOrBreak() {
        GivenGoesOn x = ring(Check.withLaw("k3w1"), 4);
        x.gift(1, 0);
        x.gift(3, 0);
        check.due("19: a cup does not break", x.ways(0, 4), 2);
        check.due("19: a house is not kept", x.ways(1, 4), 2);
        check.due("21: so it comes home", x.likely(0, 4, 0), 1);
    }

    private static void waysRefused() {
        GivenGoesOn x = ring(new GivenGoesOn(), 3);
        x.gift(0, 0);
        for (int n : new int[] {-1, 1, 8, Integer.MIN_VALUE, Integer.MAX_VALUE}) {
            check.due("19: gift " + n, x.ways(n, 0), UNKNOWN);
            check.due("20: gift " + n, x.soonest(n), UNKNOWN);
        }
        check.due("19: 0", x.ways(0, 0), OUTSIDE);
        check.due("19: 9", x.ways(0, 9), OUTSIDE);
        die(x, 0, 1, 2, 0);
        check.due("19: dead ahead of outside", x.ways(0, 9), STATE);
        check.due("20: dead", x.soonest(0), STATE);
    }

    private static void likelyDue(GivenGoesOn x, int gift, int years, long above, long below) {
        check.due("21: above, " + years, x.likely(gift, years, 0), above);
        check.due("21: below, " + years, x.likely(gift, years, 1), below);
    }

    private static void likelyInARing() {
        GivenGoesOn x = ring(new GivenGoesOn(), 5);
        x.gift(0, 0);
        likelyDue(x, 0, 4, 0, 1);
        likelyDue(x, 0, 5, 1, 1);
        likelyDue(x, 0, 7, 1, 1);
    }

    private static void likelyWithChoices() {
        GivenGoesOn x = allKnowAll(4);
        x.gift(0, 0);
        likelyDue(x, 0, 1, 0, 1);
        likelyDue(x, 0, 2, 0, 1);
        likelyDue(x, 0, 3, 1, 2);
        likelyDue(x, 0, 4, 3, 4);
        likelyDue(x, 0, 7, 31, 32);
        // 0 knows 1 and 2 and 3; 3 knows nobody else, so that a third of it stays there
        GivenGoesOn y = Check.chain(Check.people(new GivenGoesOn(), 0, 0, 0, 0), 0, 1, 2, 0, 3);
        y.gift(0, 0);
        likelyDue(y, 0, 7, 2, 3);
        GivenGoesOn z = allKnowAll(8);
        z.gift(0, 0);
        likelyDue(z, 0, 7, 4651, 7776);
    }

    private static void likelyRefused() {
        GivenGoesOn x = ring(new GivenGoesOn(), 3);
        x.gift(0, 0);
        check.due("21: gift 1", x.likely(1, 0, 2), UNKNOWN);
        check.due("21: gift -1", x.likely(-1, 1, 0), UNKNOWN);
        check.due("21: years 0", x.likely(0, 0, 0), OUTSIDE);
        check.due("21: years 8", x.likely(0, 8, 0), OUTSIDE);
        check.due("21: part 2", x.likely(0, 1, 2), OUTSIDE);
        check.due("21: part -1", x.likely(0, 1, -1), OUTSIDE);
        die(x, 0, 1, 2, 0);
        check.due("21: dead ahead of outside", x.likely(0, 8, 2), STATE);
    }

    private static void traps() {
        GivenGoesOn x = new GivenGoesOn();
        check.due("22: nobody", x.traps(), 0);
        Check.people(x, 0, 0, 0, 0, 0);
        check.due("22: who knows nobody is none", x.traps(), 0);
        Check.chain(x, 0, 1, 2, 3);
        check.due("22: the ends", x.traps(), 9);
        x.letters(Check.packed("b"));
        x.law();
        check.due("22: as if without b", x.traps(), 9);
        x.know(3, 0, true);
        check.due("22: a ring", x.traps(), 0);
    }

    private static void rounds() {
        GivenGoesOn x = new GivenGoesOn();
        check.due("23: of nobody there is", x.round(0), 1);
        check.due("23: of liking 0", x.round(1), 0);
        check.due("23: nobody gives", x.round(10), NONE);
        for (int what : new int[] {-1, 2, 9, 18, Integer.MIN_VALUE, Integer.MAX_VALUE}) {
            check.due("23: round(" + what + ")", x.round(what), OUTSIDE);
        }
        x = allKnowAll(4);
        x.like(0, 3, 5);
        x.like(3, 0, 5);
        x.like(0, 1, 4);
        x.like(1, 2, 4);
        x.like(2, 0, 4);
        x.like(3, 1, 1);
        // 0-3, 3-1, 1-2, 2-0 is 14; 0-3, 3-0, 1-2, 2-1 is 14, too: the first of them is the second
        int[] to = {3, 2, 0, 1};
        check.due("23: liking", x.round(1), 14);
        x.like(2, 1, 1);
        check.due("23: more", x.round(1), 15);
        int[] more = {3, 2, 1, 0};
        for (int i = 0; i < 4; i++) check.due("23: more, " + i, x.round(10 + i), more[i]);
        x.like(2, 1, 0);
        for (int i = 0; i < 4; i++) check.due("23: " + i, x.round(10 + i), to[i]);
        for (int i = 4; i < 8; i++) check.due("23: no person " + i, x.round(10 + i), NONE);
    }

    private static void roundsOfLikeLiking() {
        GivenGoesOn x = allKnowAll(8);
        for (int i = 0; i < 8; i++) check.due("23: in pairs, " + i, x.round(10 + i), i ^ 1);
        check.due("23: nobody likes", x.round(1), 0);
        GivenGoesOn y = ring(new GivenGoesOn(), 5);
        check.due("23: first way round", y.round(10), 1);
        y.like(1, 0, 1);
        check.due("23: other way round", y.round(10), 4);
        check.due("23: by who gives", y.round(1), 1);
    }

    private static void noRound() {
        GivenGoesOn x = Check.people(new GivenGoesOn(), 0);
        check.due("23: alone", x.round(0), 0);
        Check.chain(Check.people(x, 0, 0), 0, 1, 2);
        check.due("23: two ends at one", x.round(0), 0);
        check.due("23: no liking", x.round(1), NONE);
        for (int i = 0; i < 8; i++) check.due("23: none gives", x.round(10 + i), NONE);
        Check.chain(Check.people(x, 0), 2, 3);
        check.due("23: in two pairs", x.round(0), 1);
        check.due("23: in two pairs, 3", x.round(13), 2);
    }

    private static void strangers() {
        GivenGoesOn x = Check.people(new GivenGoesOn(), 0, 0, 0, 0, 0, 0, 0, 0);
        Check.chain(x, 0, 4, 3);
        Check.chain(x, 0, 2, 3, 5, 6);
        check.due("24: itself", x.stranger(1, 1, 0), 0);
        check.due("24: itself, by nobody", x.stranger(1, 1, 1), NONE);
        check.due("24: one hand", x.stranger(0, 4, 0), 1);
        check.due("24: one hand, by it", x.stranger(0, 4, 1), 4);
        check.due("24: two hands", x.stranger(0, 3, 0), 2);
        check.due("24: by the least", x.stranger(0, 3, 1), 2);
        check.due("24: four", x.stranger(6, 0, 0), 4);
        check.due("24: by the only one", x.stranger(6, 0, 1), 5);
        check.due("24: by person 0", x.stranger(2, 4, 1), 0);
        check.due("24: it can't", x.stranger(0, 7, 0), NONE);
        check.due("24: it can't, by nobody", x.stranger(0, 7, 1), NONE);
        GivenGoesOn y = Check.people(new GivenGoesOn(), 0, 0, 0, 0, 0, 0, 0, 0);
        Check.chain(y, 0, 1, 2, 3, 4, 5, 6, 7);
        check.due("24: seven", y.stranger(7, 0, 0), 7);
        check.due("24: seven, by", y.stranger(7, 0, 1), 6);
    }

    private static void strangersRefused() {
        GivenGoesOn x = Check.people(new GivenGoesOn(), 0, 0);
        for (int n : new int[] {-1, 2, Integer.MIN_VALUE, Integer.MAX_VALUE}) {
            check.due("24: a " + n, x.stranger(n, 0, 5), UNKNOWN);
            check.due("24: b " + n, x.stranger(0, n, 5), UNKNOWN);
        }
        check.due("24: what 2", x.stranger(0, 1, 2), OUTSIDE);
        check.due("24: what -1", x.stranger(0, 0, -1), OUTSIDE);
    }

    private static void drawnLeavesAllAsItIs() {
        GivenGoesOn x = allKnowAll(5);
        for (int i = 0; i < 5; i++) x.gift(i, i);
        x.years(1);
        long ahead = x.digest();
        for (int what = 0; what < 4; what++) x.drawn(30, 7, what);
        check.due("25: nothing changed", x.digest(), ahead);
    }

    private static long nextSeed(long seed) {
        return (1103515245L * seed + 12345L) % (1L << 31);
    }

    private static void drawnByTheSeed() {
        GivenGoesOn x = ring(new GivenGoesOn(), 3);
        x.gift(0, 0);
        long seed = 5;
        for (int years = 1; years <= 3; years++) {
            seed = nextSeed(seed);
            check.due("25: given", x.drawn(years, 5, 0), years);
            check.due("25: alive", x.drawn(years, 5, 1), years < 3 ? 1 : 0);
            check.due("25: feasts", x.drawn(years, 5, 2), years < 3 ? 0 : 1);
            check.due("25: a draw of one, too", x.drawn(years, 5, 3), seed);
        }
        check.due("25: no draw when it is dead", x.drawn(30, 5, 3), seed);
        x.give(0, 1);
        x.give(0, 2);
        x.give(0, 0);
        x.gift(0, 0);
        check.due("25: feasts in these years alone", x.drawn(2, 5, 2), 0);
        GivenGoesOn lonely = Check.people(new GivenGoesOn(), 0);
        lonely.gift(0, 0);
        check.due("25: no draw of nobody", lonely.drawn(30, 9, 3), 9);
        GivenGoesOn y = Check.chain(Check.people(new GivenGoesOn(), 0, 0, 0, 0), 0, 1);
        y.know(0, 2, true);
        y.know(0, 3, true);
        y.know(1, 0, false);
        y.know(2, 1, true);
        y.gift(0, 0);
        for (int first = 0; first < 40; first++) {
            // 2 can go on to 1, and 3 to nobody
            boolean toTwo = (nextSeed(first) / 65536) % 2 == 0;
            check.due("25: by seed " + first, y.drawn(3, first, 0), toTwo ? 2 : 1);
        }
    }

    private static void drawnRefused() {
        GivenGoesOn x = new GivenGoesOn();
        check.due("25: years 0", x.drawn(0, 0, 0), OUTSIDE);
        check.due("25: years 31", x.drawn(31, 0, 0), OUTSIDE);
        check.due("25: seed -1", x.drawn(1, -1, 0), OUTSIDE);
        check.due("25: what -1", x.drawn(1, 0, -1), OUTSIDE);
        check.due("25: what 4", x.drawn(1, 0, 4), OUTSIDE);
        check.due("25: the greatest seed", x.drawn(30, Integer.MAX_VALUE, 3), Integer.MAX_VALUE);
        check.due("25: seed 0", x.drawn(1, 0, 0), 0);
    }
}
