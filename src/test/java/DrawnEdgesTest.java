import java.math.BigInteger;
import java.util.ArrayList;
import java.util.List;

/** Promise 25 at its edges; each test tells the words of the document that it holds to. */
public final class DrawnEdgesTest {
    private static final int PLAIN = 0, CUP = 1, TALE = 2, HOUSE = 3, SPOON = 4;
    private static final int GIVEN = 0, LIVE = 1, FEASTS = 2, SEED = 3;
    private static final Check check = new Check("DrawnEdgesTest");

    public static void main(String[] args) {
        from1To30();
        seedsFrom0ToTheGreatest();
        eachDrawByTheSeedAhead();
        inOrderOfNumber();
        noDrawWithoutAGiving();
        aDrawOfOne();
        eachYearAsTold();
        oneNoMoreThanOne();
        feastsInTheseYears();
        howManyLiveThen();
        nothingIsChanged();
        asItIsNowNotAsInTheImage();
        theSameSeedTheSameYears();
        check.end();
    }

    private static GivenGoesOn ring(GivenGoesOn x, int many) {
        for (int i = 0; i < many; i++) x.person(i % 4);
        for (int i = 0; i < many; i++) x.know(i, (i + 1) % many, true);
        return x;
    }

    /** "1103515245 times it and 12345, its rest by 2 to the 31" */
    private static long next(long seed) {
        return BigInteger.valueOf(1103515245L).multiply(BigInteger.valueOf(seed)).add(BigInteger.valueOf(12345))
            .mod(BigInteger.ONE.shiftLeft(31)).longValueExact();
    }

    // "years (1 to 30)"
    private static void from1To30() {
        GivenGoesOn x = ring(new GivenGoesOn(), 8);
        x.gift(PLAIN, 0);
        long seed = 99;
        for (int years = 1; years <= 30; years++) {
            int given = Math.min(years, 8);
            if (years <= 8) seed = next(seed);
            check.due("25: given in " + years, x.drawn(years, 99, GIVEN), given);
            check.due("25: live after " + years, x.drawn(years, 99, LIVE), years < 8 ? 1 : 0);
            check.due("25: feasts in " + years, x.drawn(years, 99, FEASTS), years < 8 ? 0 : 1);
            check.due("25: seed after " + years, x.drawn(years, 99, SEED), seed);
        }
        check.due("25: 0 years", x.drawn(0, 99, GIVEN), GivenGoesOn.OUTSIDE);
        check.due("25: 31 years", x.drawn(31, 99, GIVEN), GivenGoesOn.OUTSIDE);
    }

    // "seed (0 at least)": the product wraps an int, and nothing else; a SEED is never below 0
    private static void seedsFrom0ToTheGreatest() {
        GivenGoesOn x = ring(new GivenGoesOn(), 3);
        x.gift(PLAIN, 0);
        int[] seeds = {0, 1, 2, 65535, 65536, 12345, 1103515245, 1 << 30, Integer.MAX_VALUE - 1, Integer.MAX_VALUE};
        for (int seed : seeds) check.due("25: seed behind " + seed, x.drawn(1, seed, SEED), next(seed));
        check.due("25: behind 0", x.drawn(1, 0, SEED), 12345);
        check.due("25: -1", x.drawn(1, -1, SEED), GivenGoesOn.OUTSIDE);
        check.due("25: the least", x.drawn(1, Integer.MIN_VALUE, SEED), GivenGoesOn.OUTSIDE);
    }

    // "the next SEED each time" - each gift of a YEAR draws by the one ahead
    private static void eachDrawByTheSeedAhead() {
        GivenGoesOn x = ring(new GivenGoesOn(), 8);
        for (int g = 0; g < 8; g++) x.gift(PLAIN, g);
        long seed = 7;
        for (int g = 0; g < 8; g++) seed = next(seed);
        check.due("25: eight draws in one year", x.drawn(1, 7, SEED), seed);
        for (int g = 0; g < 8; g++) seed = next(seed);
        check.due("25: sixteen in two", x.drawn(2, 7, SEED), seed);
    }

    // "by a DRAW of how many there are (in order of number)": "then that by 65536 (rounded down), its rest"
    private static void inOrderOfNumber() {
        for (int many = 1; many <= 7; many++) {
            for (int i = 0; i < 30; i++) {
                int seed = i * 7919;
                int drawn = (int) (next(seed) / 65536 % many);
                for (int place = 0; place < many; place++) {
                    int want = many < 7 ? given(drawn == place) : given(drawn == place || drawn == (place + 1) % many);
                    check.due("25: " + place + " of " + many + " by seed " + seed,
                        withOneWhoCanGoOn(many, place).drawn(2, seed, GIVEN), want);
                }
            }
        }
    }

    private static int given(boolean goesOn) {
        return goesOn ? 2 : 1;
    }

    /** 0 knows so many; they are ends, but the one at the place knows 7 (of all seven: the next one). */
    private static GivenGoesOn withOneWhoCanGoOn(int many, int place) {
        GivenGoesOn x = Check.people(new GivenGoesOn(), 0, 0, 0, 0, 0, 0, 0, 0);
        for (int p = 1; p <= many; p++) x.know(0, p, true);
        x.know(1 + place, many < 7 ? 7 : 1 + (place + 1) % many, true);
        x.gift(PLAIN, 0);
        return x;
    }

    private static void noDrawWithoutAGiving() {
        GivenGoesOn x = Check.people(new GivenGoesOn(), 0, 0, 0);
        x.gift(PLAIN, 0);
        check.due("25: nobody may have it", x.drawn(30, 5, SEED), 5);
        GivenGoesOn y = ring(Check.withLaw("k3"), 3);
        y.gift(HOUSE, 0);
        check.due("25: it is kept", y.drawn(3, 5, SEED), 5);
        check.due("25: it goes", y.drawn(4, 5, SEED), next(5));
        GivenGoesOn z = new GivenGoesOn();
        check.due("25: no gifts", z.drawn(30, Integer.MAX_VALUE, SEED), Integer.MAX_VALUE);
        for (int what = 0; what < 3; what++) check.due("25: of nobody " + what, z.drawn(30, 5, what), 0);
    }

    // A DRAW of one has no other end, but its SEED goes on
    private static void aDrawOfOne() {
        GivenGoesOn x = Check.chain(Check.people(new GivenGoesOn(), 0, 0), 0, 1);
        x.gift(PLAIN, 0);
        check.due("25: given", x.drawn(30, 8, GIVEN), 1);
        check.due("25: one draw", x.drawn(30, 8, SEED), next(8));
    }

    // "each YEAR as told": KEEP, what breaks, "b"
    private static void eachYearAsTold() {
        GivenGoesOn x = Check.chain(Check.people(Check.withLaw("k2bw2"), 0, 0, 0), 0, 1, 2);
        x.gift(PLAIN, 0);
        x.gift(CUP, 0);
        x.gift(SPOON, 0);
        check.due("25: kept", x.drawn(1, 0, GIVEN), 0);
        check.due("25: all three", x.drawn(2, 0, GIVEN), 3);
        check.due("25: the SPOON broke", x.drawn(2, 0, LIVE), 2);
        check.due("25: the other two", x.drawn(4, 0, GIVEN), 5);
        check.due("25: the CUP broke", x.drawn(4, 0, LIVE), 1);
        check.due("25: back, and home", x.drawn(8, 0, GIVEN), 7);
        check.due("25: died HOME", x.drawn(8, 0, LIVE), 0);
        check.due("25: one feast", x.drawn(8, 0, FEASTS), 1);
        check.due("25: no more", x.drawn(30, 0, GIVEN), 7);
    }

    // "o" holds in YEARS by a SEED, too: who waits draws nothing
    private static void oneNoMoreThanOne() {
        GivenGoesOn x = Check.chain(Check.people(Check.withLaw("o"), 0, 0), 0, 1);
        for (int g = 0; g < 8; g++) x.gift(TALE, 0);
        long seed = 3;
        for (int years = 1; years <= 8; years++) {
            seed = next(seed);
            check.due("25: one a year " + years, x.drawn(years, 3, GIVEN), years);
            check.due("25: one draw a year " + years, x.drawn(years, 3, SEED), seed);
        }
        check.due("25: then none", x.drawn(30, 3, GIVEN), 8);
    }

    // "2 FEASTS in these YEARS" - those ahead do not count
    private static void feastsInTheseYears() {
        GivenGoesOn x = ring(new GivenGoesOn(), 3);
        for (int g = 0; g < 8; g++) x.gift(PLAIN, g % 3);
        x.years(3);
        check.due("32: eight feasts ahead", x.count(4), 8);
        check.due("25: none in these", x.drawn(30, 1, FEASTS), 0);
        GivenGoesOn y = ring(new GivenGoesOn(), 3);
        y.gift(PLAIN, 0);
        y.years(3);
        for (int g = 0; g < 7; g++) y.gift(PLAIN, g % 3);
        check.due("25: not in two", y.drawn(2, 1, FEASTS), 0);
        check.due("25: seven in three", y.drawn(3, 1, FEASTS), 7);
    }

    // "1 how many GIFTS live then" - none, and all eight
    private static void howManyLiveThen() {
        GivenGoesOn x = ring(new GivenGoesOn(), 8);
        for (int g = 0; g < 8; g++) x.gift(PLAIN, 0);
        check.due("25: all eight", x.drawn(7, 1, LIVE), 8);
        check.due("25: none", x.drawn(8, 1, LIVE), 0);
        check.due("32: but they live", x.count(2), 8);
    }

    private static List<Long> allTold(GivenGoesOn x) {
        List<Long> all = new ArrayList<>();
        all.add(x.digest());
        for (int a = 0; a < 5; a++) {
            for (int b = 0; b < 5; b++) if (a != b) all.add((long) x.owes(a, b));
        }
        return all;
    }

    // "as they would be": nothing of it is
    private static void nothingIsChanged() {
        GivenGoesOn x = ring(Check.withLaw("b"), 5);
        for (int g = 0; g < 8; g++) x.gift(g % 5, g % 5);
        x.years(1);
        List<Long> ahead = allTold(x);
        for (int what = 0; what < 4; what++) x.drawn(30, 11, what);
        check.due("25: nothing changed", allTold(x).equals(ahead) ? 1 : 0, 1);
        x.image();
        x.drawn(30, 11, 0);
        x.restore();
        check.due("25: nor the IMAGE", allTold(x).equals(ahead) ? 1 : 0, 1);
    }

    // "as they would be": from what stands now, whatever an IMAGE keeps
    private static void asItIsNowNotAsInTheImage() {
        GivenGoesOn x = ring(new GivenGoesOn(), 3);
        x.image();
        x.gift(PLAIN, 0);
        check.due("25: a GIFT that came since", x.drawn(3, 4, GIVEN), 3);
        x.image();
        x.years(2);
        check.due("25: only one YEAR more", x.drawn(3, 4, GIVEN), 1);
        x.know(0, 1, false);
        x.know(0, 2, false);
        check.due("25: who KNOW no more", x.drawn(3, 4, LIVE), 1);
        x.restore();
        check.due("25: as in the IMAGE again", x.drawn(3, 4, GIVEN), 3);
        check.due("25: and its feast", x.drawn(3, 4, FEASTS), 1);
    }

    private static void theSameSeedTheSameYears() {
        GivenGoesOn x = ring(new GivenGoesOn(), 6);
        x.know(0, 3, true);
        x.know(1, 4, true);
        for (int g = 0; g < 8; g++) x.gift(PLAIN, g % 6);
        for (int what = 0; what < 4; what++) {
            int first = x.drawn(20, 77, what);
            x.drawn(9, 78, what);
            check.due("25: again " + what, x.drawn(20, 77, what), first);
        }
    }
}
