/** Promises 30 to 33: the image, the counts, the digest. */
public final class AllTest {
    private static final int STATE = GivenGoesOn.STATE, OUTSIDE = GivenGoesOn.OUTSIDE;
    private static final Check check = new Check("AllTest");

    public static void main(String[] args) {
        imageKeepsWorld();
        imageStays();
        imageLeavesTheRest();
        restoreRefused();
        counts();
        digestOfNothing();
        digestInItsOrder();
        refusalsChangeNothing();
        check.end();
    }

    private static GivenGoesOn some() {
        GivenGoesOn x = Check.people(Check.withLaw("w5"), 0, 1, 2, 3);
        Check.chain(x, 0, 1, 2, 3, 0);
        x.like(0, 2, 6);
        for (int kind = 0; kind < 5; kind++) x.gift(kind, kind % 4);
        x.years(2);
        return x;
    }

    private static void imageKeepsWorld() {
        GivenGoesOn x = some();
        long ahead = x.digest();
        check.due("30: gifts", x.image(), 5);
        x.gift(0, 1);
        x.years(9);
        x.know(0, 2, true);
        x.know(0, 1, false);
        x.like(0, 2, 1);
        check.due("31: gifts", x.restore(), 5);
        check.due("31: all as it was", x.digest(), ahead);
        check.due("31: liking", x.like(0, 2, 6), 6);
        check.due("31: a new gift takes the number", x.gift(2, 0), 5);
        check.due("31: and is new", x.told(5, 8) + x.told(5, 4), 0);
    }

    private static void imageStays() {
        GivenGoesOn x = some();
        x.image();
        long ahead = x.digest();
        for (int i = 0; i < 3; i++) {
            x.years(5);
            check.due("31: again", x.restore(), 5);
            check.due("31: the same again", x.digest(), ahead);
        }
        x.years(1);
        long later = x.digest();
        check.due("30: a later one", x.image(), 5);
        x.years(4);
        x.restore();
        check.due("31: the latest", x.digest(), later);
        GivenGoesOn y = new GivenGoesOn();
        check.due("30: of nothing", y.image(), 0);
        check.due("31: nothing", y.restore(), 0);
    }

    private static void imageLeavesTheRest() {
        GivenGoesOn x = some();
        x.image();
        x.letters(Check.packed("k2"));
        x.law();
        x.letters(Check.packed("xy"));
        x.open(0, 2);
        x.write(1, 3);
        x.restore();
        check.due("31: the law stays", x.lawTold(0), 2);
        check.due("31: the reads stay", x.count(6), 2);
        check.due("31: the page stays", x.count(5), 2);
        check.due("31: the book stays", x.write(1, 3), 3);
    }

    private static void restoreRefused() {
        GivenGoesOn x = some();
        check.due("31: none was kept", x.restore(), STATE);
        x.image();
        x.person(0);
        x.years(3);
        long ahead = x.digest();
        check.due("31: people came since", x.restore(), STATE);
        check.due("31: nothing changed", x.digest(), ahead);
        x.image();
        check.due("31: a newer one", x.restore(), 5);
    }

    private static void counts() {
        GivenGoesOn x = Check.chain(Check.people(Check.withLaw(""), 0, 0, 0), 0, 1, 2, 0);
        x.gift(0, 0);
        x.gift(1, 0);
        x.gift(3, 0);
        x.years(4);
        x.letters(Check.packed("abc"));
        int[] want = {3, 3, 1, 4, 1, 3, 1};
        for (int what = 0; what < want.length; what++) {
            check.due("32: count(" + what + ")", x.count(what), want[what]);
        }
        for (int what : new int[] {-1, 7, Integer.MIN_VALUE, Integer.MAX_VALUE}) {
            check.due("32: count(" + what + ")", x.count(what), OUTSIDE);
        }
    }

    private static long digestOf(long... numbers) {
        long h = 607;
        for (long it : numbers) h = 31 * h + it;
        return h;
    }

    private static void digestOfNothing() {
        long want = digestOf(1, 0, 0, 3, 0, 1, 0, 0, 0, 0, 0, 0, 0, 0);
        check.due("33: of nothing", new GivenGoesOn().digest(), want);
    }

    private static void digestInItsOrder() {
        GivenGoesOn x = Check.chain(Check.people(Check.withLaw("k1w4"), 2, 3, 0), 0, 1, 2, 0);
        x.gift(0, 0);
        x.give(0, 1);
        x.give(0, 2);
        x.give(0, 0);
        x.gift(4, 1);
        x.give(1, 2);
        x.open(1, 2);
        x.letters(Check.packed("hi"));
        long want = digestOf(1, 0, 0, 4,
            2, 0, 6, 1, 2, 3, 0, 5, 0, 9, 0, 1, 3, 0, -11,
            0, 0, 0, 2, 3, 0, 7, 1, 3,
            4, 1, 2, 1, 2, 0, 8, 0, 1, 1, 2,
            0, 1, 0, 2, 'h', 'i',
            3, 2, 1, 0, 1, 2, 1);
        check.due("33: in its order", x.digest(), want);
    }

    private static void refusalsChangeNothing() {
        GivenGoesOn x = some();
        x.open(0, 3);
        x.letters(Check.packed("kk"));
        long ahead = x.digest();
        x.letters(127);
        x.letters(0x0100);
        x.law();
        x.person(4);
        x.know(0, 0, true);
        x.know(0, 4, true);
        x.like(0, 4, 3);
        x.like(0, 1, 10);
        x.gift(5, 0);
        x.gift(0, 4);
        x.give(0, 4);
        x.give(9, 0);
        x.years(0);
        x.years(31);
        x.open(4, 3);
        x.open(0, 8);
        x.write(0, 1);
        x.write(1, 4);
        x.restore();
        check.due("33: refusals change nothing", x.digest(), ahead);
    }
}
