/** Promises 22 to 24 at their edges; each test tells the words of the document that it holds to. */
public final class TrapsAndRoundsEdgesTest {
    private static final int NONE = GivenGoesOn.NONE;
    private static final Check check = new Check("TrapsAndRoundsEdgesTest");

    public static void main(String[] args) {
        noTrapOfNobody();
        whoKnowsNobodyIsNone();
        allEightAreTraps();
        whoKnowsTwoIsNone();
        asIfWithoutB();
        roundOfNobody();
        roundOfOneAlone();
        roundOfTwo();
        roundOfAllEight();
        whatOfRound();
        noRoundIfOneKnowsNobody();
        noRoundIfTwoHaveOneFriend();
        mostLikingTogether();
        likingOfTheGiverAlone();
        zeroIsARound();
        ofLikeOnesTheFirst();
        strangerItself();
        strangerOfOneToSevenHands();
        strangerItCannot();
        byWhomFirstTheLeast();
        nothingIsChanged();
        check.end();
    }

    private static GivenGoesOn people(int many) {
        GivenGoesOn x = new GivenGoesOn();
        for (int i = 0; i < many; i++) x.person(i % 4);
        return x;
    }

    private static GivenGoesOn allKnowAll(int many) {
        GivenGoesOn x = people(many);
        for (int a = 0; a < many; a++) {
            for (int b = 0; b < a; b++) x.know(a, b, true);
        }
        return x;
    }

    private static void roundDue(String what, GivenGoesOn x, int liking, int... to) {
        check.due("23: there is, " + what, x.round(0), 1);
        check.due("23: liking, " + what, x.round(1), liking);
        for (int i = 0; i < 8; i++) check.due("23: " + i + " gives, " + what, x.round(10 + i), i < to.length ? to[i] : NONE);
    }

    private static void noRoundDue(String what, GivenGoesOn x) {
        check.due("23: there is none, " + what, x.round(0), 0);
        check.due("23: no liking, " + what, x.round(1), NONE);
        for (int i = 0; i < 8; i++) check.due("23: " + i + " gives to nobody, " + what, x.round(10 + i), NONE);
    }

    private static void noTrapOfNobody() {
        check.due("22: nobody", new GivenGoesOn().traps(), 0);
    }

    // "who KNOWS nobody is none"
    private static void whoKnowsNobodyIsNone() {
        for (int many = 1; many <= 8; many++) check.due("22: strangers " + many, people(many).traps(), 0);
        GivenGoesOn x = Check.chain(people(3), 0, 2);
        check.due("22: but for one", x.traps(), 5);
        x.know(0, 2, false);
        check.due("22: none again", x.traps(), 0);
    }

    private static void allEightAreTraps() {
        GivenGoesOn x = people(8);
        for (int p = 0; p < 8; p += 2) x.know(p, p + 1, true);
        check.due("22: four pairs", x.traps(), 255);
    }

    // "MAY give it to nobody (whoever gave it" - who knows two may give it to the other one
    private static void whoKnowsTwoIsNone() {
        for (int many = 3; many <= 8; many++) {
            GivenGoesOn x = people(many);
            for (int p = 0; p + 1 < many; p++) x.know(p, p + 1, true);
            check.due("22: a line of " + many, x.traps(), 1 + (1 << (many - 1)));
            x.know(many - 1, 0, true);
            check.due("22: a ring of " + many, x.traps(), 0);
        }
        GivenGoesOn y = people(8);
        for (int p = 1; p < 8; p++) y.know(0, p, true);
        check.due("22: a star", y.traps(), 254);
    }

    // "THE LAW as if without "b""
    private static void asIfWithoutB() {
        GivenGoesOn x = Check.chain(people(2), 0, 1);
        check.due("22: without b", x.traps(), 3);
        x.letters(Check.packed("b"));
        x.law();
        check.due("22: with b", x.traps(), 3);
    }

    // "(of nobody there is, of LIKING 0)"
    private static void roundOfNobody() {
        roundDue("of nobody", new GivenGoesOn(), 0);
    }

    // "to another one": nobody gives to himself
    private static void roundOfOneAlone() {
        noRoundDue("one alone", people(1));
    }

    private static void roundOfTwo() {
        GivenGoesOn x = people(2);
        noRoundDue("two strangers", x);
        x.know(0, 1, true);
        roundDue("two", x, 0, 1, 0);
        x.like(0, 1, 9);
        roundDue("two, of whom one likes", x, 9, 1, 0);
        x.like(1, 0, 9);
        roundDue("two who like", x, 18, 1, 0);
    }

    // 8 times 9 is the most that LIKING together can be
    private static void roundOfAllEight() {
        GivenGoesOn x = allKnowAll(8);
        roundDue("all eight", x, 0, 1, 0, 3, 2, 5, 4, 7, 6);
        for (int p = 0; p < 8; p++) x.like(p, (p + 3) % 8, 9);
        roundDue("all eight who like", x, 72, 3, 4, 5, 6, 7, 0, 1, 2);
    }

    // "10 and i to whom PERSON i gives (NONE). OUTSIDE: what (10 to 17)"
    private static void whatOfRound() {
        for (int many : new int[] {0, 2, 8}) {
            GivenGoesOn x = allKnowAll(many);
            for (int what = 2; what <= 9; what++) check.due("23: what " + what, x.round(what), GivenGoesOn.OUTSIDE);
            check.due("23: what -1", x.round(-1), GivenGoesOn.OUTSIDE);
            check.due("23: what 18", x.round(18), GivenGoesOn.OUTSIDE);
            check.due("23: what 10", x.round(10), many == 0 ? NONE : 1);
            check.due("23: what 17", x.round(17), many == 8 ? 6 : NONE);
        }
    }

    // "all PEOPLE give"
    private static void noRoundIfOneKnowsNobody() {
        GivenGoesOn x = allKnowAll(7);
        check.due("23: of seven there is", x.round(0), 1);
        x.person(0);
        noRoundDue("the eighth knows nobody", x);
        x.know(7, 0, true);
        check.due("23: the eighth knows one", x.round(0), 1);
        check.due("23: he gives to that one", x.round(17), 0);
        check.due("23: and gets from that one", x.round(10), 7);
    }

    // "so that everybody gets one"
    private static void noRoundIfTwoHaveOneFriend() {
        GivenGoesOn x = people(8);
        for (int p = 1; p < 8; p++) x.know(0, p, true);
        noRoundDue("a star", x);
        GivenGoesOn y = Check.chain(people(3), 0, 1, 2);
        noRoundDue("a line of three", y);
        y.know(2, 0, true);
        roundDue("a ring of three", y, 0, 1, 2, 0);
    }

    // "by which LIKING together is most"
    private static void mostLikingTogether() {
        GivenGoesOn x = allKnowAll(3);
        x.like(0, 2, 1);
        roundDue("the other way round", x, 1, 2, 0, 1);
        x.like(1, 2, 1);
        roundDue("like ones", x, 1, 1, 2, 0);
        GivenGoesOn y = allKnowAll(4);
        // The dearest single giving is not in the dearest round: 0 to 1 takes 9 but hinders 5, 5 and 5.
        y.like(0, 1, 9);
        y.like(0, 2, 5);
        y.like(2, 1, 5);
        y.like(1, 3, 5);
        y.like(3, 0, 5);
        roundDue("together", y, 20, 2, 3, 1, 0);
    }

    private static void likingOfTheGiverAlone() {
        GivenGoesOn x = allKnowAll(3);
        x.like(1, 0, 9);
        roundDue("1 gives to 0", x, 9, 2, 0, 1);
        x.like(0, 1, 9);
        roundDue("0 gives to 1", x, 9, 1, 2, 0);
    }

    // LIKING 0 together is a ROUND, too: 0 and no NONE
    private static void zeroIsARound() {
        GivenGoesOn x = Check.people(new GivenGoesOn(), 0, 0, 0, 0);
        Check.chain(x, 0, 3);
        Check.chain(x, 1, 2);
        x.like(0, 1, 9);
        roundDue("liking of who is not known", x, 0, 3, 2, 1, 0);
    }

    // "of like ones the first (by whom 0 gives, then 1 ..)"
    private static void ofLikeOnesTheFirst() {
        GivenGoesOn x = allKnowAll(5);
        roundDue("five", x, 0, 1, 0, 3, 4, 2);
        for (int a = 0; a < 5; a++) {
            for (int b = 0; b < 5; b++) if (a != b) x.like(a, b, 9);
        }
        roundDue("five, all liked", x, 45, 1, 0, 3, 4, 2);
        x.know(0, 1, false);
        roundDue("five, 0 and 1 do not know", x, 45, 2, 3, 0, 4, 1);
    }

    // "(0: itself)"; "(NONE: it is itself)"
    private static void strangerItself() {
        GivenGoesOn x = people(8);
        for (int p = 0; p < 8; p++) {
            check.due("24: itself " + p, x.stranger(p, p, 0), 0);
            check.due("24: by whom, itself " + p, x.stranger(p, p, 1), NONE);
        }
        Check.chain(x, 0, 1, 2, 0);
        check.due("24: itself, with friends", x.stranger(1, 1, 0), 0);
        check.due("24: by whom, itself, with friends", x.stranger(1, 1, 1), NONE);
    }

    // "the fewest hands from one to another one"
    private static void strangerOfOneToSevenHands() {
        GivenGoesOn x = Check.chain(people(8), 0, 1, 2, 3, 4, 5, 6, 7);
        for (int a = 0; a < 8; a++) {
            for (int b = 0; b < 8; b++) {
                check.due("24: from " + a + " to " + b, x.stranger(a, b, 0), Math.abs(a - b));
                int by = a == b ? NONE : a < b ? a + 1 : a - 1;
                check.due("24: by whom, from " + a + " to " + b, x.stranger(a, b, 1), by);
            }
        }
        x.know(0, 7, true);
        check.due("24: a shorter way", x.stranger(1, 7, 0), 2);
        check.due("24: by it", x.stranger(1, 7, 1), 0);
    }

    // "NONE: it can't"
    private static void strangerItCannot() {
        GivenGoesOn x = Check.chain(people(8), 0, 1, 2, 3, 4, 5, 6);
        for (int p = 0; p < 7; p++) {
            for (int what = 0; what < 2; what++) {
                check.due("24: can't from " + p, x.stranger(p, 7, what), NONE);
                check.due("24: can't to " + p, x.stranger(7, p, what), NONE);
            }
        }
        x.know(3, 4, false);
        check.due("24: the line is cut", x.stranger(0, 6, 0), NONE);
        check.due("24: its part is not", x.stranger(0, 3, 0), 3);
    }

    // "by whom first (the least)"
    private static void byWhomFirstTheLeast() {
        for (int least = 1; least <= 6; least++) {
            GivenGoesOn x = people(8);
            for (int p = 6; p >= least; p--) Check.chain(x, 0, p, 7);
            check.due("24: two hands", x.stranger(0, 7, 0), 2);
            check.due("24: by the least", x.stranger(0, 7, 1), least);
            check.due("24: by the least from there", x.stranger(7, 0, 1), least);
        }
        GivenGoesOn y = Check.chain(people(5), 0, 1, 2, 3);
        Check.chain(y, 0, 4, 3);
        check.due("24: not by the least of a longer way", y.stranger(0, 3, 1), 4);
        y.know(0, 3, true);
        check.due("24: by itself", y.stranger(0, 3, 1), 3);
    }

    private static void nothingIsChanged() {
        GivenGoesOn x = allKnowAll(8);
        x.like(0, 5, 9);
        long ahead = x.digest();
        x.traps();
        for (int what = 0; what <= 17; what++) x.round(what);
        x.stranger(0, 7, 0);
        x.stranger(0, 7, 1);
        check.due("33: nothing changed", x.digest(), ahead);
    }
}
