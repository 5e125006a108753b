/** Promise 18 (and what a YEAR is) at its edges; each test tells the words of the document that it holds to. */
public final class YearEdgesTest {
    private static final int PLAIN = 0, CUP = 1, TALE = 2, HOUSE = 3, SPOON = 4;
    private static final int LIVES = 0, DIED_HOME = 1, BROKE = 2;
    private static final Check check = new Check("YearEdgesTest");

    public static void main(String[] args) {
        from1To30();
        thirtyAtOnceAreThirtyOneByOne();
        keptAsLongAsItMayBe();
        keptBeyondByANewLaw();
        keptOfEachThatLives();
        byNumber();
        toTheLeastWhoMay();
        toTheGreatestWhoMay();
        toWhomItLikesBest();
        ofLikeOnesTheLeast();
        toWhoHasFewestThen();
        oneNoMoreThanOne();
        whoGotOneMayGiveOne();
        whatCouldNotGoDoesNotCount();
        whatDiedOrBrokeCounts();
        eachKindCountsAndWaits();
        oneEachYearAnew();
        itWaitsForNobody();
        diesHomeWithAFeast();
        breaksWithoutAFeast();
        brokenByANewLawOnlyWhenGiven();
        longYears();
        check.end();
    }

    private static GivenGoesOn ring(GivenGoesOn x, int many, int habit) {
        for (int i = 0; i < many; i++) x.person(habit);
        for (int i = 0; i < many; i++) x.know(i, (i + 1) % many, true);
        return x;
    }

    private static GivenGoesOn star(int habit, int... known) {
        GivenGoesOn x = Check.people(new GivenGoesOn(), habit, 0, 0, 0, 0, 0, 0, 0);
        for (int p : known) x.know(0, p, true);
        return x;
    }

    // "So many YEARS (1 to 30) go by"
    private static void from1To30() {
        for (int years = 1; years <= 30; years++) {
            GivenGoesOn x = ring(new GivenGoesOn(), 5, 0);
            x.gift(PLAIN, 0);
            check.due("18: given in " + years, x.years(years), Math.min(years, 5));
            check.due("32: years gone", x.count(3), years);
        }
        GivenGoesOn y = ring(new GivenGoesOn(), 3, 0);
        check.due("18: 0", y.years(0), GivenGoesOn.OUTSIDE);
        check.due("18: 31", y.years(31), GivenGoesOn.OUTSIDE);
        check.due("32: none gone", y.count(3), 0);
    }

    private static GivenGoesOn busy() {
        GivenGoesOn x = ring(Check.withLaw("k1bow5"), 6, 3);
        x.know(0, 3, true);
        for (int g = 0; g < 8; g++) x.gift(g % 5, g % 4);
        return x;
    }

    private static void thirtyAtOnceAreThirtyOneByOne() {
        GivenGoesOn x = busy();
        GivenGoesOn y = busy();
        int given = 0;
        for (int i = 0; i < 30; i++) given += y.years(1);
        check.due("18: given", x.years(30), given);
        check.due("33: alike", x.digest(), y.digest());
    }

    // "KEPT as long as it may be, is GIVEN on": "KEEP (1 to 3: .. 1, if it is not told; of a HOUSE one YEAR more)"
    private static void keptAsLongAsItMayBe() {
        for (int keep = 0; keep <= 3; keep++) {
            for (int kind = 0; kind < 5; kind++) {
                GivenGoesOn x = ring(Check.withLaw(keep == 0 ? "" : "k" + keep), 5, 0);
                x.gift(kind, 0);
                int may = Math.max(keep, 1) + (kind == HOUSE ? 1 : 0);
                for (int kept = 1; kept < may; kept++) {
                    check.due("18: kept by k" + keep, x.years(1), 0);
                    check.due("14: KEPT by k" + keep, x.told(0, 5), kept);
                }
                check.due("18: goes by k" + keep, x.years(1), 1);
                check.due("14: KEPT anew by k" + keep, x.told(0, 5), 0);
                check.due("18: so many years again by k" + keep, x.years(may), 1);
            }
        }
    }

    // What was KEPT longer than a law that is read later lets it, goes in the next YEAR; a longer KEEP holds it
    private static void keptBeyondByANewLaw() {
        GivenGoesOn x = ring(Check.withLaw("k3"), 4, 0);
        x.gift(PLAIN, 0);
        x.years(2);
        x.letters(Check.packed("k1"));
        x.law();
        check.due("14: KEPT 2", x.told(0, 5), 2);
        check.due("18: goes by k1", x.years(1), 1);
        x.letters(Check.packed("k3"));
        x.law();
        check.due("18: two years by k3", x.years(2), 0);
        check.due("18: the third", x.years(1), 1);
    }

    // "KEPT of each GIFT that lives is 1 more" - of the dead it stays
    private static void keptOfEachThatLives() {
        GivenGoesOn x = ring(Check.withLaw("k3w2"), 3, 0);
        x.gift(CUP, 0);
        x.gift(PLAIN, 0);
        x.gift(HOUSE, 0);
        x.years(1);
        for (int p : new int[] {1, 2}) x.give(0, p);
        for (int p : new int[] {1, 2, 0}) x.give(1, p);
        x.years(2);
        check.due("14: KEPT of the broken one", x.told(0, 5), 0);
        check.due("14: KEPT of the one that died HOME", x.told(1, 5), 0);
        check.due("14: KEPT of the HOUSE", x.told(2, 5), 3);
    }

    // "then each GIFT, by number": the first of one holder goes ahead of the second
    private static void byNumber() {
        GivenGoesOn x = star(3, 1, 2, 3);
        for (int g = 0; g < 8; g++) x.gift(PLAIN, 0);
        check.due("18: all eight", x.years(1), 8);
        int[] to = {1, 2, 3, 1, 2, 3, 1, 2};
        for (int g = 0; g < 8; g++) check.due("18: gift " + g, x.told(g, 2), to[g]);
    }

    // "0 gives to the least who may have it" - not to FROM, though it is less
    private static void toTheLeastWhoMay() {
        GivenGoesOn x = star(0, 7, 6, 5);
        x.gift(PLAIN, 0);
        x.years(1);
        check.due("18: the least", x.told(0, 2), 5);
        GivenGoesOn y = Check.people(new GivenGoesOn(), 0, 0, 0, 0);
        Check.chain(y, 0, 2, 3);
        y.gift(PLAIN, 0);
        y.years(2);
        check.due("18: the least but FROM", y.told(0, 2), 3);
    }

    // "1 to the greatest"
    private static void toTheGreatestWhoMay() {
        GivenGoesOn x = star(1, 1, 6, 5);
        x.gift(PLAIN, 0);
        x.years(1);
        check.due("18: the greatest", x.told(0, 2), 6);
        GivenGoesOn y = Check.people(new GivenGoesOn(), 0, 1, 0, 1);
        Check.chain(y, 3, 1, 0);
        y.gift(PLAIN, 3);
        y.years(2);
        check.due("18: the greatest but FROM", y.told(0, 2), 0);
    }

    // "2 to whom it LIKES best"
    private static void toWhomItLikesBest() {
        for (int best = 1; best < 8; best++) {
            GivenGoesOn x = star(2, 1, 2, 3, 4, 5, 6, 7);
            for (int p = 1; p < 8; p++) x.like(0, p, p == best ? 9 : 8);
            for (int p = 1; p < 8; p++) x.like(p, 0, 9);
            x.gift(PLAIN, 0);
            x.years(1);
            check.due("18: the best liked", x.told(0, 2), best);
        }
        GivenGoesOn y = star(2, 3, 4);
        y.like(0, 5, 9);
        y.like(0, 4, 1);
        y.gift(PLAIN, 0);
        y.years(1);
        check.due("18: of those who may", y.told(0, 2), 4);
    }

    // "(of like ones the least)"
    private static void ofLikeOnesTheLeast() {
        for (int liking : new int[] {0, 5, 9}) {
            GivenGoesOn x = star(2, 7, 6, 4);
            for (int p : new int[] {4, 6, 7}) x.like(0, p, liking);
            x.gift(PLAIN, 0);
            x.years(1);
            check.due("18: liked alike, " + liking, x.told(0, 2), 4);
        }
        for (int held = 0; held <= 2; held++) {
            GivenGoesOn y = star(3, 7, 6, 4);
            y.gift(PLAIN, 0);
            for (int i = 0; i < held; i++) {
                for (int p : new int[] {4, 6, 7}) y.gift(HOUSE, p);
            }
            y.years(1);
            check.due("18: having alike, " + held, y.told(0, 2), 4);
        }
    }

    // "3 to who has fewest GIFTS then" - the broken do not count, those that came in this YEAR do
    private static void toWhoHasFewestThen() {
        GivenGoesOn x = star(3, 1, 2);
        x.gift(PLAIN, 0);
        x.gift(HOUSE, 1);
        x.gift(HOUSE, 1);
        x.gift(HOUSE, 2);
        x.years(1);
        check.due("18: one is fewer than two", x.told(0, 2), 2);
        GivenGoesOn y = star(3, 1, 2);
        y.letters(Check.packed("w1"));
        y.law();
        y.gift(CUP, 0);
        y.give(0, 1);
        y.gift(PLAIN, 0);
        check.due("10: the broken one is not had", y.about(1, 1), 0);
        y.years(1);
        check.due("18: none is the least's", y.told(1, 2), 1);
        GivenGoesOn z = Check.people(new GivenGoesOn(), 0, 3, 0, 0);
        Check.chain(z, 0, 2);
        Check.chain(z, 2, 1, 3);
        z.gift(PLAIN, 0);
        z.gift(PLAIN, 1);
        z.years(1);
        check.due("18: 2 got one ahead", z.told(0, 2), 2);
        check.due("18: so the other one has fewer", z.told(1, 2), 3);
    }

    // "o" (ONE gives no more than ONE GIFT a YEAR): "it waits"
    private static void oneNoMoreThanOne() {
        GivenGoesOn x = star(0, 1, 2);
        x.letters(Check.packed("o"));
        x.law();
        for (int g = 0; g < 8; g++) x.gift(PLAIN, 0);
        check.due("18: one of eight", x.years(1), 1);
        check.due("18: the first", x.told(0, 2), 1);
        for (int g = 1; g < 8; g++) {
            check.due("18: it waits, " + g, x.told(g, 2), 0);
            check.due("14: KEPT, " + g, x.told(g, 5), 1);
        }
    }

    // By "o" who got one in this YEAR has not given one
    private static void whoGotOneMayGiveOne() {
        GivenGoesOn x = ring(Check.withLaw("o"), 4, 1);
        x.gift(PLAIN, 1);
        x.gift(PLAIN, 2);
        check.due("18: both", x.years(1), 2);
        check.due("18: to 2", x.told(0, 2), 2);
        check.due("18: of 2, who got one", x.told(1, 2), 3);
    }

    // By "o" what nobody may have is not given, and the next one goes
    private static void whatCouldNotGoDoesNotCount() {
        GivenGoesOn x = Check.chain(Check.people(Check.withLaw("o"), 0, 0), 0, 1);
        x.gift(PLAIN, 0);
        x.give(0, 1);
        x.gift(PLAIN, 1);
        check.due("18: the second goes", x.years(1), 1);
        check.due("18: the first waits", x.told(0, 2), 1);
        check.due("18: the second went", x.told(1, 2), 0);
        GivenGoesOn y = star(0, 1);
        y.letters(Check.packed("k2o"));
        y.law();
        y.gift(HOUSE, 0);
        y.gift(PLAIN, 0);
        check.due("18: a HOUSE is kept, the other goes", y.years(2), 1);
        check.due("18: the other went", y.told(1, 2), 1);
    }

    // By "o" what died HOME or broke was given
    private static void whatDiedOrBrokeCounts() {
        GivenGoesOn x = ring(Check.withLaw("o"), 3, 0);
        x.gift(PLAIN, 0);
        x.give(0, 1);
        x.give(0, 2);
        x.gift(PLAIN, 2);
        check.due("18: one", x.years(1), 1);
        check.due("18: it died HOME", x.told(0, 7), DIED_HOME);
        check.due("18: the other waits", x.told(1, 2), 2);
        GivenGoesOn y = ring(Check.withLaw("ow1"), 3, 0);
        y.gift(SPOON, 2);
        y.gift(PLAIN, 2);
        check.due("18: one", y.years(1), 1);
        check.due("18: it broke", y.told(0, 7), BROKE);
        check.due("18: the other waits", y.told(1, 2), 2);
    }

    // By "o" each kind is ONE GIFT: it counts, and waits for one of any kind
    private static void eachKindCountsAndWaits() {
        for (int first = 0; first < 5; first++) {
            for (int second = 0; second < 5; second++) {
                GivenGoesOn x = Check.people(Check.withLaw("o"), 0, 0);
                x.gift(first, 0);
                x.gift(second, 0);
                x.years(2);
                x.know(0, 1, true);
                String kinds = first + " ahead of " + second;
                check.due("18: one, " + kinds, x.years(1), 1);
                check.due("18: the first went, " + kinds, x.told(0, 2), 1);
                check.due("18: the second waits, " + kinds, x.told(1, 2), 0);
                check.due("14: KEPT on, " + kinds, x.told(1, 5), 3);
            }
        }
    }

    // "in this YEAR" - in the next one each gives one again
    private static void oneEachYearAnew() {
        GivenGoesOn x = star(0, 1);
        x.letters(Check.packed("o"));
        x.law();
        for (int g = 0; g < 8; g++) x.gift(PLAIN, 0);
        for (int year = 1; year <= 8; year++) {
            check.due("18: one in year " + year, x.years(1), 1);
            check.due("10: left in year " + year, x.about(0, 1), 8 - year);
        }
        check.due("18: then they are with who can't", x.years(1), 0);
    }

    // "if nobody MAY HAVE it, it waits" - and is KEPT on, and goes when somebody may
    private static void itWaitsForNobody() {
        GivenGoesOn x = Check.people(new GivenGoesOn(), 0, 0);
        for (int kind = 0; kind < 5; kind++) x.gift(kind, 0);
        check.due("18: nobody", x.years(30), 0);
        for (int kind = 0; kind < 5; kind++) check.due("14: KEPT 30, " + kind, x.told(kind, 5), 30);
        check.due("14: no wear of waiting", x.told(CUP, 4), 0);
        x.know(0, 1, true);
        check.due("18: all five", x.years(1), 5);
        check.due("14: the TALE has one hand more", x.told(TALE, 8), 1);
    }

    // "If it has come HOME, it dies there with a FEAST"
    private static void diesHomeWithAFeast() {
        for (int kind : new int[] {PLAIN, TALE, HOUSE}) {
            GivenGoesOn x = ring(new GivenGoesOn(), 3, 0);
            x.gift(kind, 2);
            check.due("18: three times", x.years(30), 3);
            check.due("14: died HOME, " + kind, x.told(0, 7), DIED_HOME);
            check.due("14: HOME has it, " + kind, x.told(0, 2), 2);
            check.due("10: the feast at HOME, " + kind, x.about(2, 3), 1);
            check.due("10: no other, " + kind, x.about(0, 3) + x.about(1, 3), 0);
            check.due("32: one feast, " + kind, x.count(4), 1);
        }
    }

    private static void breaksWithoutAFeast() {
        GivenGoesOn x = ring(new GivenGoesOn(), 3, 0);
        x.gift(CUP, 2);
        x.gift(SPOON, 2);
        check.due("18: three and two", x.years(30), 5);
        check.due("14: broke at the door", x.told(0, 7) + 10 * x.told(0, 2), BROKE + 20);
        check.due("14: broke on the way", x.told(1, 7), BROKE);
        check.due("32: no feast", x.count(4), 0);
    }

    // A CUP breaks when it is GIVEN: by a law that is read later what is worn lives until then
    private static void brokenByANewLawOnlyWhenGiven() {
        for (int kind : new int[] {CUP, SPOON}) {
            GivenGoesOn x = ring(Check.withLaw("w9"), 6, 0);
            x.gift(kind, 3);
            x.years(2);
            int wear = kind == CUP ? 2 : 4;
            check.due("14: worn", x.told(0, 4), wear);
            x.letters(Check.packed("k2w1"));
            x.law();
            check.due("14: it lives by the new law", x.told(0, 7), LIVES);
            check.due("14: worth by the new law", x.told(0, 6), 10 - wear);
            check.due("18: kept for a year", x.years(1), 0);
            check.due("14: it lives when kept", x.told(0, 7), LIVES);
            check.due("18: given", x.years(1), 1);
            check.due("14: it broke then", x.told(0, 7), BROKE);
        }
    }

    /**
     * As many YEARS as an object can be asked for: WEAR, hands, KEPT, thanks and YEARS grow beyond
     * what a byte or a short holds. Eight of a kind go round among 1, 3 and 2, and never HOME to 0.
     */
    private static void longYears() {
        int calls = 440;
        int years = 30 * calls;
        GivenGoesOn x = Check.people(new GivenGoesOn(), 0, 1, 0, 0);
        Check.chain(x, 0, 1, 2, 3, 1);
        for (int g = 0; g < 7; g++) x.gift(TALE, 0);
        x.gift(PLAIN, 0);
        int[][] owed = new int[4][4];
        int had = 0;
        for (int n = 0; n < years; n++) {
            int has = new int[] {1, 3, 2}[n % 3];
            owed[has][had] += 7 * (10 + Math.min(n, 9)) + Math.max(10 - n, 1);
            had = has;
        }
        for (int i = 0; i < calls; i++) check.due("18: all eight each year", x.years(30), 8 * 30);
        check.due("32: years gone", x.count(3), years);
        check.due("14: wear", x.told(7, 4), years);
        check.due("14: worth", x.told(7, 6), 1);
        check.due("14: hands of a TALE", x.told(0, 8), years);
        check.due("14: worth of a TALE", x.told(0, 6), 19);
        check.due("14: they live", x.told(0, 7) + x.told(7, 7), LIVES);
        for (int a = 1; a < 4; a++) {
            for (int b = 0; b < 4; b++) if (a != b) check.due("11: owed", x.owes(a, b), owed[a][b]);
        }
        for (int p = 0; p < 4; p++) {
            int rest = 0;
            for (int q = 0; q < 4; q++) rest += owed[q][p] - owed[p][q];
            check.due("12: rest", x.rest(p), rest);
        }
        GivenGoesOn y = Check.people(new GivenGoesOn(), 0);
        y.gift(HOUSE, 0);
        for (int i = 0; i < 500; i++) y.years(30);
        check.due("14: KEPT for all these years", y.told(0, 5), 15000);
    }
}
