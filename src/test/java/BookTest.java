/** Promises 26 to 29: the clerk's book. */
public final class BookTest {
    private static final int NONE = GivenGoesOn.NONE, UNKNOWN = GivenGoesOn.UNKNOWN;
    private static final int OUTSIDE = GivenGoesOn.OUTSIDE, STATE = GivenGoesOn.STATE;
    private static final Check check = new Check("BookTest");

    public static void main(String[] args) {
        noBook();
        openRefused();
        writing();
        writeRefused();
        fillings();
        fillingsByThisAlone();
        sureYears();
        anotherBook();
        bookFollowsThePeople();
        check.end();
    }

    private static GivenGoesOn ring(GivenGoesOn x, int many) {
        for (int i = 0; i < many; i++) x.person(0);
        for (int i = 0; i < many; i++) x.know(i, (i + 1) % many, true);
        return x;
    }

    private static void noBook() {
        GivenGoesOn x = ring(new GivenGoesOn(), 3);
        check.due("27: no book", x.write(1, 0), STATE);
        check.due("27: no book ahead of unknown", x.write(9, 9), STATE);
        check.due("28: no book", x.filled(), STATE);
        check.due("29: no book", x.sure(1), STATE);
        check.due("29: no book ahead of unknown", x.sure(0), STATE);
    }

    private static void openRefused() {
        GivenGoesOn x = ring(new GivenGoesOn(), 3);
        for (int n : new int[] {-1, 3, Integer.MIN_VALUE, Integer.MAX_VALUE}) {
            check.due("26: person " + n, x.open(n, 0), UNKNOWN);
        }
        for (int n : new int[] {0, 8, -1, Integer.MIN_VALUE, Integer.MAX_VALUE}) {
            check.due("26: years " + n, x.open(0, n), OUTSIDE);
        }
        check.due("26: none is open", x.filled(), STATE);
        check.due("26: open", x.open(2, 7), 3);
        x.write(3, 1);
        check.due("26: refused again", x.open(0, 8), OUTSIDE);
        check.due("26: the one ahead stands", x.write(3, NONE), 1);
    }

    private static void writing() {
        GivenGoesOn x = ring(new GivenGoesOn(), 3);
        x.open(0, 2);
        check.due("27: a hole", x.write(1, 2), NONE);
        check.due("27: what was written", x.write(1, 0), 2);
        check.due("27: person 0", x.write(1, NONE), 0);
        check.due("27: a hole again", x.write(1, 1), NONE);
        check.due("27: the other year is a hole", x.write(2, 1), NONE);
    }

    private static void writeRefused() {
        GivenGoesOn x = ring(new GivenGoesOn(), 3);
        x.open(0, 2);
        for (int n : new int[] {0, 3, -1, Integer.MIN_VALUE, Integer.MAX_VALUE}) {
            check.due("27: year " + n, x.write(n, 1), UNKNOWN);
            check.due("29: year " + n, x.sure(n), UNKNOWN);
        }
        for (int n : new int[] {3, -2, Integer.MIN_VALUE, Integer.MAX_VALUE}) {
            check.due("27: v " + n, x.write(1, n), UNKNOWN);
        }
        check.due("27: nothing was written", x.write(1, NONE), NONE);
    }

    private static void fillings() {
        GivenGoesOn x = ring(new GivenGoesOn(), 5);
        x.open(0, 4);
        check.due("28: two ways round", x.filled(), 2);
        x.write(4, 4);
        check.due("28: one way round", x.filled(), 1);
        x.write(1, 1);
        x.write(2, 2);
        x.write(3, 3);
        check.due("28: no holes", x.filled(), 1);
        x.write(2, 3);
        check.due("28: not so", x.filled(), 0);
        x.open(0, 5);
        check.due("28: not home", x.filled(), 0);
        x.open(0, 2);
        x.write(2, 0);
        check.due("28: home is never written rightly", x.filled(), 0);
        x.open(1, 1);
        x.know(1, 2, false);
        check.due("29: person 0", x.sure(1), 0);
        GivenGoesOn y = new GivenGoesOn();
        for (int i = 0; i < 8; i++) y.person(0);
        for (int a = 0; a < 8; a++) {
            for (int b = 0; b < a; b++) y.know(a, b, true);
        }
        y.open(3, 1);
        check.due("28: seven", y.filled(), 7);
        y.open(3, 7);
        check.due("28: all", y.filled(), 7 * 6 * 5 * 5 * 5 * 5 * 5);
        y.write(3, 0);
        check.due("28: a seventh of them", y.filled(), 6 * 5 * 5 * 5 * 5 * 5);
        y.write(5, 0);
        check.due("28: not back to whom it came from", y.filled(), 0);
        y.write(5, NONE);
        y.write(4, 0);
        check.due("28: nobody gives to himself", y.filled(), 0);
    }

    private static void fillingsByThisAlone() {
        GivenGoesOn x = Check.chain(Check.people(Check.withLaw("k3b"), 0, 0, 0), 0, 1, 2);
        x.open(0, 2);
        check.due("28: to the end", x.filled(), 1);
        x.open(0, 3);
        check.due("28: b does not matter", x.filled(), 0);
        check.due("29: no ways", x.sure(1), NONE);
    }

    private static void sureYears() {
        // 0 - 1 - (2 or 3) - 4 - 5
        GivenGoesOn x = Check.people(new GivenGoesOn(), 0, 0, 0, 0, 0, 0);
        Check.chain(x, 0, 1, 2, 4, 5);
        Check.chain(x, 1, 3, 4);
        x.open(0, 4);
        check.due("29: the first", x.sure(1), 1);
        check.due("29: two could", x.sure(2), NONE);
        check.due("29: the third", x.sure(3), 4);
        check.due("29: the last, back or on", x.sure(4), NONE);
        x.write(4, 5);
        check.due("29: still two", x.sure(2), NONE);
        check.due("29: a written one", x.sure(4), 5);
        x.write(2, 3);
        check.due("29: sure then", x.sure(2), 3);
        check.due("29: asking wrote nothing", x.write(1, NONE), NONE);
        check.due("29: nor wiped it", x.write(2, NONE), 3);
        x.write(1, 5);
        check.due("29: no way", x.sure(4), NONE);
        check.due("29: no way of the written one", x.sure(1), NONE);
    }

    private static void anotherBook() {
        GivenGoesOn x = ring(new GivenGoesOn(), 4);
        x.open(0, 3);
        x.write(3, 1);
        check.due("26: another", x.open(2, 7), 4);
        for (int year = 1; year <= 7; year++) check.due("26: all holes", x.write(year, NONE), NONE);
        x.open(1, 2);
        check.due("26: shorter", x.write(3, NONE), UNKNOWN);
        check.due("29: begun by 1", x.sure(2), 3);
    }

    private static void bookFollowsThePeople() {
        GivenGoesOn x = Check.chain(Check.people(new GivenGoesOn(), 0, 0), 0, 1);
        x.open(0, 1);
        check.due("28: one", x.filled(), 1);
        x.person(0);
        x.know(0, 2, true);
        check.due("28: with who came since", x.filled(), 2);
        check.due("27: who came since is written", x.write(1, 2), NONE);
        check.due("29: who came since", x.sure(1), 2);
        x.know(0, 2, false);
        check.due("28: known no more", x.filled(), 0);
    }
}
