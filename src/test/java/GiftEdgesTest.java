/** Promises 13 to 17 at their edges; each test tells the words of the document that it holds to. */
public final class GiftEdgesTest {
    private static final int NONE = GivenGoesOn.NONE, STATE = GivenGoesOn.STATE;
    private static final int PLAIN = 0, CUP = 1, TALE = 2, HOUSE = 3, SPOON = 4;
    private static final int LIVES = 0, DIED_HOME = 1, BROKE = 2;
    private static final Check check = new Check("GiftEdgesTest");

    public static void main(String[] args) {
        eightAtMostOfEachKind();
        oneBeginsIt();
        fromNoneAtFirst();
        itsOwnNumberNotThatOfTheKind();
        theDeadAreStillTakenAndTold();
        whoKnowsTheHolder();
        isNotFrom();
        backIfToNobodyElse();
        backOnlyIfItKnowsTheHolder();
        backOfOneThatNobodyGave();
        homeMayHaveIt();
        whateverItWasKept();
        oneGivesManyByHand();
        wearOfEachKind();
        mostFrom1To9();
        wearAsMostWasToldThen();
        onlyCupsBreak();
        brokenAheadOfHome();
        homeOneShortOfBreaking();
        worthOneAtLeast();
        worthOfATaleNineMoreAtMost();
        worthOfASpoonThatBroke();
        owedAsItWasAhead();
        handsBehindTheFirstOne();
        check.end();
    }

    private static GivenGoesOn ring(GivenGoesOn x, int many) {
        for (int i = 0; i < many; i++) x.person(0);
        for (int i = 0; i < many; i++) x.know(i, (i + 1) % many, true);
        return x;
    }

    /** 0 knows 1 alone; 1, 2 and 3 are a ring: what 0 begins goes round there without coming home. */
    private static GivenGoesOn roundAbout(String law) {
        return Check.chain(Check.people(Check.withLaw(law), 0, 0, 0, 0), 0, 1, 2, 3, 1);
    }

    /** To whom the n-th giving goes in the ring of 1, 2 and 3. */
    private static int roundTo(int n) {
        return 1 + n % 3;
    }

    // "GIFTS (8 at most, numbered) are of KINDS: 0 .. 4"
    private static void eightAtMostOfEachKind() {
        for (int kind = 0; kind < 5; kind++) {
            GivenGoesOn x = Check.people(new GivenGoesOn(), 0);
            for (int g = 0; g < 8; g++) {
                check.due("13: not yet " + g, x.told(g, 0), GivenGoesOn.UNKNOWN);
                check.due("13: kind " + kind, x.gift(kind, 0), g);
                check.due("14: kind " + kind, x.told(g, 0), kind);
                check.due("32: gifts", x.count(1), g + 1);
            }
            check.due("13: a ninth of kind " + kind, x.gift(kind, 0), GivenGoesOn.FULL);
            check.due("32: eight", x.count(1), 8);
            check.due("32: eight live", x.count(2), 8);
        }
    }

    // "A GIFT that one begins (its HOME, its HOLDER)" - the least one and the greatest
    private static void oneBeginsIt() {
        GivenGoesOn x = Check.people(new GivenGoesOn(), 0, 0, 0, 0, 0, 0, 0, 0);
        for (int p = 0; p < 8; p++) {
            check.due("13: of " + p, x.gift(PLAIN, p), p);
            check.due("14: HOME " + p, x.told(p, 1), p);
            check.due("14: HOLDER " + p, x.told(p, 2), p);
        }
    }

    // "who gave it (FROM; NONE at first)" - and all else as new
    private static void fromNoneAtFirst() {
        for (int kind = 0; kind < 5; kind++) {
            GivenGoesOn x = ring(new GivenGoesOn(), 3);
            x.gift(kind, 2);
            int[] want = {kind, 2, 2, NONE, 0, 0, 10, LIVES, 0};
            for (int what = 0; what < 9; what++) check.due("14: told at first " + what, x.told(0, what), want[what]);
        }
        GivenGoesOn y = ring(new GivenGoesOn(), 3);
        y.gift(PLAIN, 1);
        y.give(0, 0);
        check.due("14: FROM 1", y.told(0, 3), 1);
        y.give(0, 2);
        check.due("14: FROM 0", y.told(0, 3), 0);
    }

    // "A GIFT taken as a KIND: its own number, not that of the KIND; NONE"; "a SPOON is a CUP, too"; "All are GIFTS"
    private static void itsOwnNumberNotThatOfTheKind() {
        int[] kinds = {SPOON, HOUSE, TALE, CUP, PLAIN, SPOON, CUP, TALE};
        GivenGoesOn x = Check.people(new GivenGoesOn(), 0);
        for (int kind : kinds) x.gift(kind, 0);
        for (int g = 0; g < 8; g++) {
            for (int kind = 0; kind < 5; kind++) {
                boolean is = kind == PLAIN || kind == kinds[g] || (kind == CUP && kinds[g] == SPOON);
                check.due("15: as(" + g + ", " + kind + ")", x.as(g, kind), is ? g : NONE);
            }
        }
    }

    // told() and as() have no STATE: what died or broke is told as it was then
    private static void theDeadAreStillTakenAndTold() {
        GivenGoesOn x = ring(new GivenGoesOn(), 3);
        x.gift(TALE, 0);
        x.gift(SPOON, 0);
        for (int p : new int[] {1, 2, 0}) x.give(0, p);
        for (int p : new int[] {1, 2}) x.give(1, p);
        x.years(5);
        int[] home = {TALE, 0, 0, 2, 0, 0, 13, DIED_HOME, 3};
        int[] broken = {SPOON, 0, 2, 1, 4, 0, 6, BROKE, 2};
        for (int what = 0; what < 9; what++) {
            check.due("14: home again, " + what, x.told(0, what), home[what]);
            check.due("14: broken, " + what, x.told(1, what), broken[what]);
        }
        check.due("15: the dead TALE", x.as(0, TALE), 0);
        check.due("15: the broken SPOON as a CUP", x.as(1, CUP), 1);
        check.due("15: the broken SPOON as a TALE", x.as(1, TALE), NONE);
        check.due("10: the dead are held by nobody", x.about(0, 1) + x.about(2, 1), 0);
    }

    // "MAY HAVE a GIFT: who KNOWS the HOLDER" - nobody, the greatest alone, all
    private static void whoKnowsTheHolder() {
        GivenGoesOn x = Check.people(new GivenGoesOn(), 0, 0, 0, 0, 0, 0, 0, 0);
        x.gift(PLAIN, 0);
        check.due("16: nobody", x.may(0), 0);
        x.know(7, 0, true);
        check.due("16: the greatest", x.may(0), 128);
        for (int p = 1; p < 7; p++) x.know(0, p, true);
        check.due("16: all but the HOLDER", x.may(0), 254);
        x.gift(PLAIN, 7);
        check.due("16: the least", x.may(1), 1);
        for (int p = 1; p < 8; p++) x.know(0, p, false);
        check.due("16: nobody again", x.may(0), 0);
    }

    // "and is not FROM"
    private static void isNotFrom() {
        GivenGoesOn x = Check.people(new GivenGoesOn(), 0, 0, 0, 0, 0, 0, 0, 0);
        for (int a = 0; a < 8; a++) {
            for (int b = 0; b < a; b++) x.know(a, b, true);
        }
        x.gift(PLAIN, 7);
        check.due("17: to 0", x.give(0, 0), LIVES);
        check.due("16: all but 0 and 7", x.may(0), 126);
        check.due("17: not back", x.give(0, 7), STATE);
        check.due("17: to 3", x.give(0, 3), LIVES);
        check.due("16: HOME may again, FROM not", x.may(0), 255 - 8 - 1);
    }

    // "b" (it may go BACK to FROM, if to nobody else)
    private static void backIfToNobodyElse() {
        GivenGoesOn x = Check.chain(Check.people(Check.withLaw("b"), 0, 0, 0), 0, 1, 2);
        x.gift(PLAIN, 0);
        x.give(0, 1);
        check.due("16: to another one, so not back", x.may(0), 4);
        check.due("17: not back", x.give(0, 0), STATE);
        x.know(1, 2, false);
        check.due("16: to nobody else, so back", x.may(0), 1);
        check.due("17: back, and home", x.give(0, 0), DIED_HOME);
        GivenGoesOn y = Check.chain(Check.people(new GivenGoesOn(), 0, 0), 0, 1);
        y.gift(PLAIN, 0);
        y.give(0, 1);
        check.due("16: without b to nobody", y.may(0), 0);
        check.due("17: without b not back", y.give(0, 0), STATE);
    }

    // "by "b" FROM may (if it KNOWS the HOLDER), if nobody else may"
    private static void backOnlyIfItKnowsTheHolder() {
        GivenGoesOn x = Check.chain(Check.people(Check.withLaw("b"), 0, 0), 0, 1);
        x.gift(PLAIN, 0);
        x.give(0, 1);
        check.due("16: FROM knows the HOLDER", x.may(0), 1);
        x.know(0, 1, false);
        check.due("16: FROM does not", x.may(0), 0);
        check.due("17: not back", x.give(0, 0), STATE);
        check.due("18: it waits", x.years(1), 0);
    }

    // FROM is NONE at first: by "b" nobody may have what nobody gave and nobody else may have
    private static void backOfOneThatNobodyGave() {
        GivenGoesOn x = Check.people(Check.withLaw("b"), 0, 0);
        x.gift(PLAIN, 0);
        x.gift(PLAIN, 1);
        check.due("16: nobody", x.may(0) + x.may(1), 0);
        check.due("18: they wait", x.years(1), 0);
        for (int p = 0; p < 2; p++) check.due("17: not to " + p, x.give(0, p), STATE);
    }

    private static void homeMayHaveIt() {
        GivenGoesOn x = ring(new GivenGoesOn(), 3);
        x.gift(PLAIN, 0);
        x.give(0, 1);
        x.give(0, 2);
        check.due("16: HOME alone", x.may(0), 1);
        check.due("17: HOME", x.give(0, 0), DIED_HOME);
    }

    // "A GIFT is GIVEN on by hand, whatever it was KEPT" - not yet a YEAR, less than KEEP, more than KEEP
    private static void whateverItWasKept() {
        for (int years : new int[] {0, 1, 2, 3, 9}) {
            GivenGoesOn x = Check.people(Check.withLaw("k3"), 0, 0);
            x.gift(HOUSE, 0);
            if (years > 0) x.years(years);
            x.know(0, 1, true);
            check.due("14: KEPT " + years, x.told(0, 5), years);
            check.due("17: KEPT " + years, x.give(0, 1), LIVES);
            check.due("14: KEPT 0 then", x.told(0, 5), 0);
        }
    }

    // "o" is of a YEAR: by hand one gives as many as it has
    private static void oneGivesManyByHand() {
        GivenGoesOn x = ring(Check.withLaw("o"), 3);
        for (int g = 0; g < 8; g++) x.gift(PLAIN, 0);
        for (int g = 0; g < 8; g++) check.due("17: by hand " + g, x.give(g, 1), LIVES);
        check.due("10: all eight", x.about(1, 1), 8);
    }

    // "WEAR 1 more (of a TALE not; of a SPOON 2)"
    private static void wearOfEachKind() {
        int[] more = {1, 1, 0, 1, 2};
        for (int kind = 0; kind < 5; kind++) {
            GivenGoesOn x = roundAbout("w9");
            x.gift(kind, 0);
            for (int n = 0; n < 4; n++) {
                check.due("14: wear of kind " + kind + ", given " + n, x.told(0, 4), n * more[kind]);
                x.give(0, roundTo(n));
            }
            check.due("14: wear of kind " + kind + " at last", x.told(0, 4), 4 * more[kind]);
        }
    }

    // "MOST (1 to 9: WEAR by which a CUP breaks; 3, if it is not told)": "whose WEAR is MOST or more breaks"
    private static void mostFrom1To9() {
        for (int most = 0; most <= 9; most++) {
            int by = most == 0 ? 3 : most;
            String law = most == 0 ? "" : "w" + most;
            for (int kind : new int[] {CUP, SPOON}) {
                int more = kind == CUP ? 1 : 2;
                int givings = (by + more - 1) / more;
                GivenGoesOn x = roundAbout(law);
                x.gift(kind, 0);
                for (int n = 1; n <= givings; n++) {
                    int want = n < givings ? LIVES : BROKE;
                    check.due("17: kind " + kind + " by [" + law + "], giving " + n, x.give(0, roundTo(n - 1)), want);
                }
                check.due("14: it broke", x.told(0, 7), BROKE);
                check.due("14: with wear", x.told(0, 4), more * givings);
                check.due("14: at the one who has it then", x.told(0, 2), roundTo(givings - 1));
                check.due("32: no feast", x.count(4), 0);
                check.due("32: it lives no more", x.count(2), 0);
            }
        }
    }

    // A law that is read later breaks nothing by itself: what is worn breaks when it is GIVEN
    private static void wearAsMostWasToldThen() {
        GivenGoesOn x = roundAbout("w9");
        x.gift(CUP, 0);
        for (int n = 0; n < 5; n++) x.give(0, roundTo(n));
        x.letters(Check.packed("w1"));
        x.law();
        check.due("14: it lives", x.told(0, 7), LIVES);
        check.due("14: wear", x.told(0, 4), 5);
        check.due("17: given, it breaks", x.give(0, roundTo(5)), BROKE);
        GivenGoesOn y = roundAbout("w3");
        y.gift(CUP, 0);
        for (int n = 0; n < 2; n++) y.give(0, roundTo(n));
        y.letters(Check.packed("w4"));
        y.law();
        check.due("17: three is not four", y.give(0, roundTo(2)), LIVES);
        check.due("17: four is", y.give(0, roundTo(3)), BROKE);
    }

    // "a CUP (a SPOON) .. breaks" - no other KIND
    private static void onlyCupsBreak() {
        for (int kind : new int[] {PLAIN, TALE, HOUSE}) {
            GivenGoesOn x = roundAbout("w1");
            x.gift(kind, 0);
            for (int n = 0; n < 20; n++) check.due("17: kind " + kind + ", giving " + n, x.give(0, roundTo(n)), LIVES);
        }
    }

    // "breaks (ahead of that: no FEAST)"
    private static void brokenAheadOfHome() {
        for (int kind : new int[] {CUP, SPOON}) {
            GivenGoesOn x = ring(Check.withLaw(kind == CUP ? "w3" : "w5"), 3);
            x.gift(kind, 0);
            x.give(0, 1);
            x.give(0, 2);
            check.due("17: it broke at HOME's door", x.give(0, 0), BROKE);
            check.due("14: it broke", x.told(0, 7), BROKE);
            check.due("14: HOME has it", x.told(0, 2), 0);
            check.due("10: no feast there", x.about(0, 3), 0);
            check.due("32: no feast", x.count(4), 0);
            check.due("11: thanks all the same", x.owes(0, 2), kind == CUP ? 8 : 6);
        }
    }

    // One less of WEAR than MOST: it comes HOME
    private static void homeOneShortOfBreaking() {
        for (int kind : new int[] {CUP, SPOON}) {
            GivenGoesOn x = ring(Check.withLaw(kind == CUP ? "w4" : "w7"), 3);
            x.gift(kind, 0);
            x.give(0, 1);
            x.give(0, 2);
            check.due("17: it died HOME", x.give(0, 0), DIED_HOME);
            check.due("10: a feast there", x.about(0, 3), 1);
            check.due("32: a feast", x.count(4), 1);
        }
    }

    // "WORTH is 10 less WEAR (1 at least)"
    private static void worthOneAtLeast() {
        for (int kind : new int[] {PLAIN, HOUSE}) {
            GivenGoesOn x = roundAbout("");
            x.gift(kind, 0);
            int[] worth = {10, 9, 8, 7, 6, 5, 4, 3, 2, 1, 1, 1, 1};
            for (int n = 0; n < worth.length; n++) {
                check.due("14: wear " + n, x.told(0, 4), n);
                check.due("14: worth by wear " + n, x.told(0, 6), worth[n]);
                x.give(0, roundTo(n));
            }
        }
    }

    // "and of a TALE as many more as hands it had behind the first one (9 at most)"
    private static void worthOfATaleNineMoreAtMost() {
        GivenGoesOn x = roundAbout("");
        x.gift(TALE, 0);
        int[] worth = {10, 11, 12, 13, 14, 15, 16, 17, 18, 19, 19, 19, 19};
        for (int n = 0; n < worth.length; n++) {
            check.due("14: no wear of a TALE", x.told(0, 4), 0);
            check.due("14: worth by hands " + n, x.told(0, 6), worth[n]);
            x.give(0, roundTo(n));
        }
    }

    private static void worthOfASpoonThatBroke() {
        GivenGoesOn x = roundAbout("w9");
        x.gift(SPOON, 0);
        int[] worth = {10, 8, 6, 4, 2};
        for (int n = 0; n < 5; n++) {
            check.due("14: worth of a SPOON " + n, x.told(0, 6), worth[n]);
            x.give(0, roundTo(n));
        }
        check.due("14: wear ten", x.told(0, 4), 10);
        check.due("14: worth one", x.told(0, 6), 1);
        check.due("14: it broke", x.told(0, 7), BROKE);
    }

    // "who had it is OWED its WORTH (as it was ahead) of thanks by who has it now"
    private static void owedAsItWasAhead() {
        int[] plain = {10, 9, 8, 7, 6, 5, 4, 3, 2, 1, 1, 1};
        int[] tale = {10, 11, 12, 13, 14, 15, 16, 17, 18, 19, 19, 19};
        for (int kind : new int[] {PLAIN, TALE}) {
            GivenGoesOn x = roundAbout("");
            x.gift(kind, 0);
            int[][] owed = new int[4][4];
            int had = 0;
            for (int n = 0; n < 12; n++) {
                x.give(0, roundTo(n));
                owed[roundTo(n)][had] += kind == PLAIN ? plain[n] : tale[n];
                check.due("11: kind " + kind + ", giving " + n, x.owes(roundTo(n), had), owed[roundTo(n)][had]);
                check.due("11: not the other way", x.owes(had, roundTo(n)), owed[had][roundTo(n)]);
                had = roundTo(n);
            }
        }
    }

    // "8 how many hands it had behind the first one" - none, and as often as it was GIVEN
    private static void handsBehindTheFirstOne() {
        for (int kind = 0; kind < 5; kind++) {
            GivenGoesOn x = roundAbout("w9");
            x.gift(kind, 0);
            for (int n = 0; n < 4; n++) {
                check.due("14: hands of kind " + kind, x.told(0, 8), n);
                x.give(0, roundTo(n));
            }
        }
        GivenGoesOn y = roundAbout("");
        y.gift(PLAIN, 0);
        for (int n = 0; n < 100; n++) y.give(0, roundTo(n));
        check.due("14: a hundred hands", y.told(0, 8), 100);
    }
}
