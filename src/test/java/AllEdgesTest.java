import java.math.BigInteger;
import java.util.ArrayList;
import java.util.List;

/** Promises 30 to 33, and the 512 calls of an object, at their edges; each test tells the words that it holds to. */
public final class AllEdgesTest {
    private static final int NONE = GivenGoesOn.NONE, UNKNOWN = GivenGoesOn.UNKNOWN;
    private static final int STATE = GivenGoesOn.STATE, FULL = GivenGoesOn.FULL;
    private static final Check check = new Check("AllEdgesTest");

    public static void main(String[] args) {
        howManyGiftsAnImageKeeps();
        giftsThatComeSinceAreGone();
        giftsAreAsTheyWere();
        whoKnowsWhomIsAsItWas();
        likingIsAsItWas();
        whatIsOwedIsAsItWas();
        yearsAndFeastsAreAsTheyWere();
        whatAnImageDoesNotKeep();
        oneImageTheLatest();
        noneWasKept();
        peopleCameSince();
        restoreGoesOn();
        countsOfNothingAndOfAll();
        digestWraps();
        digestOfEachPart();
        digestChangesNothing();
        the512thCall();
        theFacesConstants();
        check.end();
    }

    private static GivenGoesOn ring(GivenGoesOn x, int many) {
        for (int i = 0; i < many; i++) x.person(i % 4);
        for (int i = 0; i < many; i++) x.know(i, (i + 1) % many, true);
        return x;
    }

    // "An IMAGE is kept: how many GIFTS" - from none to eight
    private static void howManyGiftsAnImageKeeps() {
        GivenGoesOn x = ring(new GivenGoesOn(), 8);
        for (int g = 0; g <= 8; g++) {
            check.due("30: gifts " + g, x.image(), g);
            check.due("31: gifts " + g, x.restore(), g);
            x.gift(0, 0);
        }
    }

    // "(those that come since are gone by restore())"
    private static void giftsThatComeSinceAreGone() {
        GivenGoesOn x = ring(new GivenGoesOn(), 4);
        x.gift(1, 1);
        x.image();
        for (int g = 1; g < 8; g++) x.gift(2, 2);
        check.due("13: full", x.gift(0, 0), FULL);
        x.years(1);
        check.due("31: one", x.restore(), 1);
        for (int g = 1; g < 8; g++) {
            check.due("14: gone " + g, x.told(g, 0), UNKNOWN);
            check.due("15: gone " + g, x.as(g, 0), UNKNOWN);
        }
        check.due("10: nobody holds them", x.about(2, 1), 0);
        check.due("32: one", x.count(1), 1);
        check.due("32: one lives", x.count(2), 1);
        for (int g = 1; g < 8; g++) {
            check.due("13: their numbers are free", x.gift(3, 3), g);
            int[] want = {3, 3, 3, NONE, 0, 0, 10, 0, 0};
            for (int what = 0; what < 9; what++) check.due("14: as new " + what, x.told(g, what), want[what]);
        }
    }

    private static void giftsAreAsTheyWere() {
        GivenGoesOn x = ring(Check.withLaw("w9"), 6);
        for (int kind = 0; kind < 5; kind++) x.gift(kind, 0);
        x.years(2);
        List<Integer> ahead = new ArrayList<>();
        for (int g = 0; g < 5; g++) {
            for (int what = 0; what < 9; what++) ahead.add(x.told(g, what));
        }
        x.image();
        x.years(30);
        check.due("32: none lives", x.count(2), 0);
        x.restore();
        for (int g = 0; g < 5; g++) {
            for (int what = 0; what < 9; what++) check.due("31: told " + g + ", " + what, x.told(g, what), ahead.get(9 * g + what));
        }
        check.due("32: all live again", x.count(2), 5);
    }

    private static void whoKnowsWhomIsAsItWas() {
        GivenGoesOn x = ring(new GivenGoesOn(), 4);
        x.image();
        x.know(0, 1, false);
        x.know(0, 2, true);
        x.restore();
        for (int p = 0; p < 4; p++) {
            check.due("31: whom " + p + " knows", x.about(p, 2), 1 << (p + 1) % 4 | 1 << (p + 3) % 4);
        }
    }

    private static void likingIsAsItWas() {
        GivenGoesOn x = ring(new GivenGoesOn(), 8);
        x.like(0, 7, 9);
        x.image();
        x.like(0, 7, 1);
        x.like(7, 0, 9);
        x.restore();
        check.due("31: liking", x.like(0, 7, 0), 9);
        check.due("31: none at first", x.like(7, 0, 0), 0);
    }

    private static void whatIsOwedIsAsItWas() {
        GivenGoesOn x = ring(new GivenGoesOn(), 4);
        x.gift(0, 0);
        x.give(0, 1);
        x.image();
        x.give(0, 2);
        x.give(0, 3);
        x.restore();
        check.due("31: owed ahead", x.owes(1, 0), 10);
        check.due("31: not owed yet", x.owes(2, 1) + x.owes(3, 2), 0);
        check.due("31: rest", x.rest(1), -10);
    }

    // "how many YEARS and FEASTS there were"
    private static void yearsAndFeastsAreAsTheyWere() {
        GivenGoesOn x = ring(new GivenGoesOn(), 3);
        x.gift(0, 0);
        x.gift(0, 1);
        x.give(0, 1);
        x.give(0, 2);
        x.give(0, 0);
        x.years(1);
        x.image();
        x.years(30);
        check.due("32: years", x.count(3), 31);
        check.due("32: feasts", x.count(4), 2);
        x.restore();
        check.due("31: years", x.count(3), 1);
        check.due("31: feasts", x.count(4), 1);
        check.due("31: the feast at 0", x.about(0, 3), 1);
        check.due("31: none yet at 1", x.about(1, 3), 0);
    }

    // THE LAW, THE PAGE, how often a law was read and THE BOOK are not told of an IMAGE
    private static void whatAnImageDoesNotKeep() {
        GivenGoesOn x = ring(Check.withLaw("k2"), 4);
        x.letters(Check.packed("b"));
        x.open(0, 2);
        x.write(1, 1);
        x.image();
        x.law();
        x.letters(Check.packed("xyz"));
        x.write(1, 3);
        x.restore();
        check.due("31: THE LAW read since", x.lawTold(0), 1);
        check.due("31: its b", x.lawTold(1), 1);
        check.due("31: reads", x.count(6), 2);
        check.due("31: letters since", x.count(5), 3);
        check.due("31: WRITTEN since", x.write(1, NONE), 3);
        GivenGoesOn y = ring(new GivenGoesOn(), 4);
        y.image();
        y.open(1, 3);
        y.restore();
        check.due("31: opened since", y.filled(), 2);
    }

    // "(one; the latest)"
    private static void oneImageTheLatest() {
        GivenGoesOn x = ring(new GivenGoesOn(), 4);
        x.image();
        x.gift(0, 0);
        x.image();
        x.gift(0, 0);
        check.due("31: the latest", x.restore(), 1);
        check.due("31: the latest again", x.restore(), 1);
    }

    // "STATE: none was kept"
    private static void noneWasKept() {
        check.due("31: of nobody", new GivenGoesOn().restore(), STATE);
        GivenGoesOn x = ring(new GivenGoesOn(), 8);
        x.gift(0, 0);
        check.due("31: of many", x.restore(), STATE);
        check.due("32: the gift stays", x.count(1), 1);
        GivenGoesOn y = new GivenGoesOn();
        check.due("30: an image of nothing is one", y.image(), 0);
        check.due("31: of nothing", y.restore(), 0);
    }

    // "or PEOPLE came since" - one that was refused did not come
    private static void peopleCameSince() {
        for (int many = 0; many < 8; many++) {
            GivenGoesOn x = new GivenGoesOn();
            for (int i = 0; i < many; i++) x.person(0);
            x.image();
            x.person(4);
            check.due("31: nobody came to " + many, x.restore(), 0);
            x.person(0);
            check.due("31: one came to " + many, x.restore(), STATE);
            check.due("32: he stays", x.count(0), many + 1);
            x.image();
            check.due("31: a later image", x.restore(), 0);
        }
        GivenGoesOn y = ring(new GivenGoesOn(), 8);
        y.image();
        check.due("7: a ninth", y.person(0), FULL);
        check.due("31: he did not come", y.restore(), 0);
    }

    // "It goes on from the IMAGE": what comes behind is as it was behind the image
    private static void restoreGoesOn() {
        GivenGoesOn x = ring(Check.withLaw("bo"), 6);
        for (int g = 0; g < 8; g++) x.gift(g % 5, g % 6);
        x.image();
        x.years(7);
        long first = x.digest();
        x.restore();
        x.years(7);
        check.due("31: the same years", x.digest(), first);
        x.restore();
        x.years(3);
        x.restore();
        for (int i = 0; i < 7; i++) x.years(1);
        check.due("31: one by one", x.digest(), first);
    }

    private static void countsOfNothingAndOfAll() {
        GivenGoesOn x = new GivenGoesOn();
        for (int what = 0; what <= 6; what++) check.due("32: at first " + what, x.count(what), 0);
        check.due("32: -1", x.count(-1), GivenGoesOn.OUTSIDE);
        check.due("32: 7", x.count(7), GivenGoesOn.OUTSIDE);
        x.law();
        x.law();
        ring(x, 8);
        for (int g = 0; g < 8; g++) x.gift(0, g);
        x.letters(Check.packed("aaaaaaaa"));
        x.letters(Check.packed("aaaaaaaa"));
        x.years(7);
        int[] ahead = {8, 8, 8, 7, 0, 16, 2};
        for (int what = 0; what <= 6; what++) check.due("32: a year ahead " + what, x.count(what), ahead[what]);
        x.years(1);
        int[] want = {8, 8, 0, 8, 8, 16, 2};
        for (int what = 0; what <= 6; what++) check.due("32: of all " + what, x.count(what), want[what]);
    }

    /** All numbers of digest(), by the calls that tell them. */
    private static List<Long> numbers(GivenGoesOn x, boolean withBook, String page) {
        List<Long> all = new ArrayList<>();
        for (int what = 0; what <= 3; what++) all.add((long) x.lawTold(what));
        for (int p = 0; p < x.count(0); p++) {
            for (int what = 0; what <= 3; what++) all.add((long) x.about(p, what));
            all.add((long) x.rest(p));
        }
        for (int g = 0; g < x.count(1); g++) {
            for (int what = 0; what <= 8; what++) all.add((long) x.told(g, what));
            if (x.told(g, 7) != 0) continue;
            all.add((long) x.may(g));
            all.add((long) x.soonest(g));
        }
        all.add((long) x.traps());
        all.add((long) x.round(0));
        all.add((long) x.round(1));
        if (withBook) all.add((long) x.filled());
        for (char letter : page.toCharArray()) all.add((long) letter);
        for (int what = 0; what <= 6; what++) all.add((long) x.count(what));
        return all;
    }

    /** "31 times h, and it (as longs, wrapping)", wrapped at the end alone. */
    private static long mixed(List<Long> numbers) {
        BigInteger h = BigInteger.valueOf(607);
        for (long it : numbers) h = h.multiply(BigInteger.valueOf(31)).add(BigInteger.valueOf(it));
        return h.longValue();
    }

    private static void digestWraps() {
        GivenGoesOn x = ring(Check.withLaw("k1bow9"), 8);
        for (int g = 0; g < 8; g++) x.gift(g % 5, 7 - g);
        x.years(9);
        x.open(7, 7);
        x.letters(Check.packed("~~~~~~~~"));
        x.letters(Check.packed("aaaaaaaa"));
        check.due("33: of all", x.digest(), mixed(numbers(x, true, "~~~~~~~~aaaaaaaa")));
        check.due("33: of nothing", new GivenGoesOn().digest(), mixed(numbers(new GivenGoesOn(), false, "")));
    }

    // "of those that live ..": the dead and the broken without; "with a BOOK FILLED": without one without
    private static void digestOfEachPart() {
        GivenGoesOn x = ring(new GivenGoesOn(), 3);
        check.due("33: no gifts", x.digest(), mixed(numbers(x, false, "")));
        x.gift(0, 0);
        x.gift(4, 0);
        check.due("33: two live", x.digest(), mixed(numbers(x, false, "")));
        x.years(2);
        check.due("14: one broke", x.told(1, 7), 2);
        check.due("33: one lives", x.digest(), mixed(numbers(x, false, "")));
        x.years(1);
        check.due("14: one died HOME", x.told(0, 7), 1);
        check.due("33: none lives", x.digest(), mixed(numbers(x, false, "")));
        x.open(0, 7);
        check.due("33: with a book", x.digest(), mixed(numbers(x, true, "")));
        x.letters(1);
        check.due("33: with a page", x.digest(), mixed(numbers(x, true, "\u0001")));
        x.person(0);
        check.due("33: without a round", x.digest(), mixed(numbers(x, true, "\u0001")));
    }

    private static void digestChangesNothing() {
        GivenGoesOn x = ring(Check.withLaw("b"), 6);
        for (int g = 0; g < 8; g++) x.gift(g % 5, g % 6);
        x.open(0, 3);
        x.letters(Check.packed("k"));
        long first = x.digest();
        for (int i = 0; i < 3; i++) check.due("33: again", x.digest(), first);
    }

    // "An object is used for at most 512 calls": the 512th is answered as the first
    private static void the512thCall() {
        GivenGoesOn x = new GivenGoesOn();
        for (int i = 1; i <= 512; i++) check.due("5: read " + i, x.law(), i);
        GivenGoesOn y = ring(new GivenGoesOn(), 8);
        for (int g = 0; g < 8; g++) y.gift(3, g);
        // 24 calls up to here, then 487 pairs of years that change everything, and one that tells it
        int given = 0;
        for (int i = 25; i <= 511; i++) given += y.years(2);
        check.due("18: each HOUSE eight times", given, 64);
        check.due("32: years, as the 512th call", y.count(3), 2 * 487);
        GivenGoesOn z = ring(new GivenGoesOn(), 8);
        z.gift(2, 0);
        z.open(0, 7);
        long first = z.digest();
        // 19 calls up to here
        for (int i = 20; i <= 512; i++) check.due("33: as the call " + i, z.digest(), first);
    }

    private static void theFacesConstants() {
        check.due("NONE", NONE, -1);
        check.due("UNKNOWN", UNKNOWN, -101);
        check.due("OUTSIDE", GivenGoesOn.OUTSIDE, -102);
        check.due("STATE", STATE, -103);
        check.due("FULL", FULL, -104);
    }
}
