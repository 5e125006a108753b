import java.math.BigInteger;

/** Promises 19 to 21 at their edges; each test tells the words of the document that it holds to. */
public final class WaysEdgesTest {
    private static final int NONE = GivenGoesOn.NONE;
    private static final int PLAIN = 0, CUP = 1, HOUSE = 3, SPOON = 4;
    private static final Check check = new Check("WaysEdgesTest");

    public static void main(String[] args) {
        inJustSoManyYears();
        homeInOneYear();
        noneOfWhoKnowsNobody();
        homeOnlyAtTheEnd();
        notBackToFrom();
        backByLawOnTheWay();
        keepDoesNotMatter();
        itDoesNotBreak();
        asIfItWereAlone();
        asManyAsThereCanBe();
        soonestOfEight();
        soonestIsTheLeastThatHasAny();
        asItIsNow();
        nothingIsChanged();
        likelyNever();
        likelySurely();
        likelyWithinNotInJust();
        itStaysForGood();
        eachAsLikely();
        inLowestTerms();
        theGreatestBelow();
        likelyBackByLaw();
        check.end();
    }

    private static GivenGoesOn ring(GivenGoesOn x, int many) {
        for (int i = 0; i < many; i++) x.person(0);
        for (int i = 0; i < many; i++) x.know(i, (i + 1) % many, true);
        return x;
    }

    private static GivenGoesOn line(String law, int many) {
        GivenGoesOn x = Check.withLaw(law);
        for (int i = 0; i < many; i++) x.person(0);
        for (int i = 0; i + 1 < many; i++) x.know(i, i + 1, true);
        return x;
    }

    private static GivenGoesOn allKnowAll(GivenGoesOn x, int many) {
        for (int i = 0; i < many; i++) x.person(0);
        for (int a = 0; a < many; a++) {
            for (int b = 0; b < a; b++) x.know(a, b, true);
        }
        return x;
    }

    private static void likelyDue(String what, GivenGoesOn x, int years, long above, long below) {
        check.due("21: above, " + what + ", " + years, x.likely(0, years, 0), above);
        check.due("21: below, " + what + ", " + years, x.likely(0, years, 1), below);
    }

    // "WAYS HOME of a GIFT in just n YEARS (1 to 8)" - the ring of n has two in just n
    private static void inJustSoManyYears() {
        for (int many = 3; many <= 8; many++) {
            GivenGoesOn x = ring(new GivenGoesOn(), many);
            x.gift(PLAIN, many - 1);
            for (int n = 1; n <= 8; n++) {
                check.due("19: ring of " + many + " in " + n, x.ways(0, n), n == many ? 2 : 0);
            }
            check.due("19: in 0", x.ways(0, 0), GivenGoesOn.OUTSIDE);
            check.due("19: in 9", x.ways(0, 9), GivenGoesOn.OUTSIDE);
        }
    }

    private static void homeInOneYear() {
        GivenGoesOn x = ring(new GivenGoesOn(), 3);
        x.gift(PLAIN, 0);
        x.give(0, 2);
        x.give(0, 1);
        check.due("19: in one", x.ways(0, 1), 1);
        check.due("20: in one", x.soonest(0), 1);
        likelyDue("in one", x, 1, 1, 1);
    }

    private static void noneOfWhoKnowsNobody() {
        GivenGoesOn x = Check.people(Check.withLaw("b"), 0);
        x.gift(PLAIN, 0);
        for (int n = 1; n <= 8; n++) check.due("19: alone in " + n, x.ways(0, n), 0);
        check.due("20: alone", x.soonest(0), NONE);
        for (int n = 1; n <= 7; n++) likelyDue("alone", x, n, 0, 1);
    }

    // It dies HOME: no way goes on from there - through HOME there would be more
    private static void homeOnlyAtTheEnd() {
        // Two rings of three that share 0 alone: a way of six would go through 0
        GivenGoesOn x = Check.people(new GivenGoesOn(), 0, 0, 0, 0, 0);
        Check.chain(x, 0, 1, 2, 0, 3, 4, 0);
        x.gift(PLAIN, 0);
        check.due("19: each ring both ways", x.ways(0, 3), 4);
        for (int n : new int[] {1, 2, 4, 5, 6, 7, 8}) check.due("19: not through HOME in " + n, x.ways(0, n), 0);
        likelyDue("two rings", x, 3, 1, 1);
    }

    // "who .. is not FROM"
    private static void notBackToFrom() {
        GivenGoesOn x = line("", 3);
        x.gift(PLAIN, 0);
        for (int n = 1; n <= 8; n++) check.due("19: not back in " + n, x.ways(0, n), 0);
        GivenGoesOn y = line("", 2);
        y.gift(PLAIN, 0);
        y.give(0, 1);
        check.due("19: FROM is HOME", y.ways(0, 1), 0);
        likelyDue("FROM is HOME", y, 1, 0, 1);
    }

    // "b": back at the end of the line, and only there
    private static void backByLawOnTheWay() {
        for (int many = 2; many <= 5; many++) {
            GivenGoesOn x = line("b", many);
            x.gift(PLAIN, 0);
            for (int n = 1; n <= 8; n++) {
                check.due("19: line of " + many + " in " + n, x.ways(0, n), n == 2 * (many - 1) ? 1 : 0);
            }
            check.due("20: line of " + many, x.soonest(0), 2 * (many - 1));
        }
    }

    // "(KEEP does not matter"
    private static void keepDoesNotMatter() {
        for (String law : new String[] {"k1", "k2", "k3", "o", "k3o"}) {
            for (int kind : new int[] {PLAIN, HOUSE}) {
                GivenGoesOn x = ring(Check.withLaw(law), 3);
                x.gift(kind, 0);
                check.due("19: by " + law, x.ways(0, 3), 2);
                check.due("20: by " + law, x.soonest(0), 3);
                likelyDue("by " + law, x, 3, 1, 1);
            }
        }
    }

    // "it does not break)"
    private static void itDoesNotBreak() {
        for (int kind : new int[] {CUP, SPOON}) {
            GivenGoesOn x = ring(Check.withLaw("w1"), 8);
            x.gift(kind, 0);
            check.due("19: unbroken", x.ways(0, 8), 2);
            check.due("20: unbroken", x.soonest(0), 8);
            GivenGoesOn y = ring(Check.withLaw("w1"), 7);
            y.gift(kind, 0);
            likelyDue("unbroken", y, 7, 1, 1);
        }
    }

    // "if it went on each YEAR": by "o", too, whatever else its HOLDER has
    private static void asIfItWereAlone() {
        GivenGoesOn x = ring(Check.withLaw("o"), 3);
        for (int g = 0; g < 8; g++) x.gift(PLAIN, 0);
        for (int g = 0; g < 8; g++) {
            for (int n = 1; n <= 8; n++) check.due("19: one of eight in " + n, x.ways(g, n), n == 3 ? 2 : 0);
            check.due("20: one of eight", x.soonest(g), 3);
            check.due("21: one of eight", x.likely(g, 3, 0), 1);
        }
    }

    /** Ways by hand: among k + 1 who all know each other, from HOME, never HOME between and never back. */
    private static long waysAmongAll(int others, int years) {
        if (years < 3) return 0;
        // Each of the others but HOME and FROM: others - 2 ways to go on, but at first others - 1.
        long ways = (long) others * (others - 1);
        for (int n = 3; n < years; n++) ways *= others - 2;
        return ways;
    }

    private static void asManyAsThereCanBe() {
        for (int many = 3; many <= 8; many++) {
            GivenGoesOn x = allKnowAll(new GivenGoesOn(), many);
            x.gift(PLAIN, 0);
            for (int n = 1; n <= 8; n++) {
                check.due("19: all " + many + " in " + n, x.ways(0, n), waysAmongAll(many - 1, n));
            }
            check.due("20: all " + many, x.soonest(0), 3);
        }
    }

    // "SOONEST: the least n (of 8) that has any" - eight is, nine (and ten) is none
    private static void soonestOfEight() {
        GivenGoesOn x = line("b", 5);
        x.gift(PLAIN, 0);
        check.due("20: there and back in eight", x.soonest(0), 8);
        GivenGoesOn y = line("b", 6);
        y.gift(PLAIN, 0);
        check.due("20: there and back in ten", y.soonest(0), NONE);
        y.give(0, 1);
        check.due("20: in nine", y.soonest(0), NONE);
        y.give(0, 2);
        check.due("20: in eight", y.soonest(0), 8);
        GivenGoesOn z = ring(new GivenGoesOn(), 8);
        z.gift(PLAIN, 7);
        check.due("20: round eight", z.soonest(0), 8);
        // At 1, the third on the way, it may turn by either of two ends: parts of ways to the eighth would wrap a long.
        GivenGoesOn v = Check.people(Check.withLaw("b"), 0, 0, 0, 0, 0, 0, 0, 0);
        Check.chain(v, 6, 4, 3, 1, 2);
        Check.chain(v, 5, 1, 0, 7);
        v.gift(PLAIN, 6);
        check.due("20: by two ends in eight", v.soonest(0), 8);
        check.due("19: by two ends in eight", v.ways(0, 8), 2);
    }

    private static void soonestIsTheLeastThatHasAny() {
        // Rings of three and of five share 0
        GivenGoesOn x = Check.people(new GivenGoesOn(), 0, 0, 0, 0, 0, 0, 0);
        Check.chain(x, 0, 1, 2, 3, 4, 0);
        Check.chain(x, 0, 5, 6, 0);
        x.gift(PLAIN, 0);
        check.due("20: the shorter ring", x.soonest(0), 3);
        check.due("19: the longer one", x.ways(0, 5), 2);
        x.give(0, 1);
        check.due("20: on the longer one", x.soonest(0), 4);
    }

    // It is asked of the GIFT as it is now: by its HOLDER, FROM and HOME
    private static void asItIsNow() {
        GivenGoesOn x = ring(new GivenGoesOn(), 8);
        x.gift(PLAIN, 0);
        for (int p = 1; p < 8; p++) {
            x.give(0, p);
            check.due("20: from " + p, x.soonest(0), 8 - p);
            for (int n = 1; n <= 8; n++) check.due("19: from " + p + " in " + n, x.ways(0, n), n == 8 - p ? 1 : 0);
        }
        x.know(7, 0, false);
        check.due("20: the way is closed", x.soonest(0), NONE);
    }

    private static void nothingIsChanged() {
        GivenGoesOn x = allKnowAll(Check.withLaw("b"), 8);
        x.gift(PLAIN, 0);
        x.give(0, 5);
        long ahead = x.digest();
        for (int n = 1; n <= 8; n++) x.ways(0, n);
        x.soonest(0);
        for (int n = 1; n <= 7; n++) x.likely(0, n, n % 2);
        check.due("33: nothing changed", x.digest(), ahead);
    }

    // "in lowest terms: part 0 above, 1 below" - of what never is 0 of 1
    private static void likelyNever() {
        GivenGoesOn x = ring(new GivenGoesOn(), 8);
        x.gift(PLAIN, 0);
        for (int n = 1; n <= 7; n++) likelyDue("ring of eight", x, n, 0, 1);
        check.due("21: in 0", x.likely(0, 0, 0), GivenGoesOn.OUTSIDE);
        check.due("21: in 8", x.likely(0, 8, 0), GivenGoesOn.OUTSIDE);
    }

    private static void likelySurely() {
        for (int many = 3; many <= 7; many++) {
            GivenGoesOn x = ring(new GivenGoesOn(), many);
            x.gift(PLAIN, 0);
            for (int n = 1; n <= 7; n++) likelyDue("ring of " + many, x, n, n < many ? 0 : 1, 1);
        }
    }

    // "how likely it has come HOME within n YEARS"
    private static void likelyWithinNotInJust() {
        // 0 - 1 - 2 - 0, and 0 - 3 - 4 - 5 - 0: half of it in three, all of it in four
        GivenGoesOn x = Check.people(new GivenGoesOn(), 0, 0, 0, 0, 0, 0);
        Check.chain(x, 0, 1, 2, 0, 3, 4, 5, 0);
        x.gift(PLAIN, 0);
        int[] above = {0, 0, 1, 1, 1, 1, 1};
        int[] below = {1, 1, 2, 1, 1, 1, 1};
        for (int n = 1; n <= 7; n++) likelyDue("two rings", x, n, above[n - 1], below[n - 1]);
    }

    // "(it stays for good, if nobody may)"
    private static void itStaysForGood() {
        for (int ends = 1; ends <= 5; ends++) {
            GivenGoesOn x = Check.people(new GivenGoesOn(), 0, 0, 0, 0, 0, 0, 0, 0);
            Check.chain(x, 0, 1, 2, 0);
            for (int p = 3; p < 3 + ends; p++) x.know(0, p, true);
            x.gift(PLAIN, 0);
            boolean even = ends % 2 == 0;
            for (int n = 3; n <= 7; n++) {
                likelyDue("with ends " + ends, x, n, even ? 1 : 2, even ? (ends + 2) / 2 : ends + 2);
            }
        }
    }

    // "each of who MAY HAVE it as likely" - HOME is one of those to whom 1 may give it, the others are ends
    private static void eachAsLikely() {
        for (int others = 0; others <= 5; others++) {
            GivenGoesOn x = Check.people(new GivenGoesOn(), 0, 0, 0, 0, 0, 0, 0, 0);
            Check.chain(x, 7, 0, 1, 7);
            for (int p = 2; p < 2 + others; p++) x.know(1, p, true);
            x.gift(PLAIN, 7);
            x.give(0, 0);
            x.give(0, 1);
            likelyDue("of others " + others, x, 1, 1, others + 1);
        }
    }

    // "in lowest terms" - two of the six to whom 0 may give it come HOME: not 2 of 6, but 1 of 3
    private static void inLowestTerms() {
        GivenGoesOn x = Check.people(new GivenGoesOn(), 0, 0, 0, 0, 0, 0, 0);
        Check.chain(x, 0, 1, 2, 0);
        for (int p = 3; p <= 6; p++) x.know(0, p, true);
        x.gift(PLAIN, 0);
        likelyDue("two of six", x, 3, 1, 3);
    }

    // Parts that no int holds: above and below are longs, and nothing of them wraps around
    private static void theGreatestBelow() {
        GivenGoesOn x = allKnowAll(new GivenGoesOn(), 8);
        x.gift(PLAIN, 0);
        // After the second step one of six comes HOME each year.
        for (int n = 3; n <= 7; n++) {
            BigInteger six = BigInteger.valueOf(6).pow(n - 2);
            BigInteger away = BigInteger.valueOf(5).pow(n - 2);
            likelyDue("all eight", x, n, six.subtract(away).longValueExact(), six.longValueExact());
        }
        GivenGoesOn y = ofManyParts();
        for (int n = 1; n <= 7; n++) {
            BigInteger[] want = plainChance(y, n);
            likelyDue("of many parts", y, n, want[0].longValueExact(), want[1].longValueExact());
        }
        likelyDue("beyond an int", y, 7, 3824768797L, 7290000000L);
    }

    /** Some know seven and some know few, so that below is as great as a long search found it. */
    private static GivenGoesOn ofManyParts() {
        GivenGoesOn x = Check.people(new GivenGoesOn(), 0, 0, 0, 0, 0, 0, 0, 0);
        int[] known = {10, 20, 21, 31, 32, 40, 41, 43, 50, 51, 52, 53, 54, 60, 61, 63, 64, 65, 70, 71, 74, 75, 76};
        for (int two : known) x.know(two / 10, two % 10, true);
        x.gift(PLAIN, 7);
        return x;
    }

    /** The chance by listing all ways, from whom each one knows. */
    private static BigInteger[] plainChance(GivenGoesOn x, int years) {
        int[] known = new int[8];
        for (int p = 0; p < 8; p++) known[p] = x.about(p, 2);
        return chance(known, NONE, 7, 7, years);
    }

    private static BigInteger[] chance(int[] known, int from, int holder, int home, int years) {
        BigInteger[] sum = {BigInteger.ZERO, BigInteger.ONE};
        int who = from == NONE ? known[holder] : known[holder] & ~(1 << from);
        if (years == 0 || who == 0) return sum;
        for (int p = 0; p < 8; p++) {
            if ((who >> p) % 2 == 0) continue;
            BigInteger[] one = p == home ? new BigInteger[] {BigInteger.ONE, BigInteger.ONE}
                : chance(known, holder, p, home, years - 1);
            sum[0] = sum[0].multiply(one[1]).add(one[0].multiply(sum[1]));
            sum[1] = sum[1].multiply(one[1]);
            BigInteger common = sum[0].gcd(sum[1]);
            sum[0] = sum[0].divide(common);
            sum[1] = sum[1].divide(common);
        }
        sum[1] = sum[1].multiply(BigInteger.valueOf(Integer.bitCount(who)));
        BigInteger common = sum[0].gcd(sum[1]);
        return new BigInteger[] {sum[0].divide(common), sum[1].divide(common)};
    }

    private static void likelyBackByLaw() {
        GivenGoesOn x = line("b", 4);
        x.gift(PLAIN, 0);
        for (int n = 1; n <= 7; n++) likelyDue("there and back", x, n, n < 6 ? 0 : 1, 1);
        GivenGoesOn y = line("", 4);
        y.gift(PLAIN, 0);
        for (int n = 1; n <= 7; n++) likelyDue("there for good", y, n, 0, 1);
    }
}
