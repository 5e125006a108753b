/** Promises 13 to 18: gifts, who may have them, gifts given by hand and by years. */
public final class GiftsTest {
    private static final int NONE = GivenGoesOn.NONE, UNKNOWN = GivenGoesOn.UNKNOWN;
    private static final int OUTSIDE = GivenGoesOn.OUTSIDE, STATE = GivenGoesOn.STATE;
    private static final int PLAIN = 0, CUP = 1, TALE = 2, HOUSE = 3, SPOON = 4;
    private static final int[] NO_GIFT = {-1, 1, 8, Integer.MIN_VALUE, Integer.MAX_VALUE};
    private static final Check check = new Check("GiftsTest");

    public static void main(String[] args) {
        giftsBegin();
        giftsRefused();
        toldRefused();
        kinds();
        whoMayHave();
        backByLaw();
        mayRefused();
        givenByHand();
        wearByKind();
        cupsBreak();
        breakingComesAheadOfHome();
        worthOfTales();
        leastWorth();
        giveRefused();
        yearsRefused();
        keepByLaw();
        habits();
        fewestThen();
        oneAYear();
        handsDoNotCountForTheYear();
        whatCantGoWaits();
        deadStayDead();
        check.end();
    }

    private static GivenGoesOn ring(GivenGoesOn x, int many, int habit) {
        for (int i = 0; i < many; i++) x.person(habit);
        for (int i = 0; i < many; i++) x.know(i, (i + 1) % many, true);
        return x;
    }

    private static void toldDue(GivenGoesOn x, int gift, int... want) {
        for (int what = 0; what < want.length; what++) {
            check.due("14: told(" + gift + ", " + what + ")", x.told(gift, what), want[what]);
        }
    }

    private static void giftsBegin() {
        GivenGoesOn x = ring(new GivenGoesOn(), 3, 0);
        for (int kind = 0; kind < 5; kind++) check.due("13: kind " + kind, x.gift(kind, kind % 3), kind);
        for (int g = 0; g < 5; g++) toldDue(x, g, g, g % 3, g % 3, NONE, 0, 0, 10, 0, 0);
        check.due("13: five", x.count(1), 5);
    }

    private static void giftsRefused() {
        GivenGoesOn x = ring(new GivenGoesOn(), 3, 0);
        check.due("13: kind -1", x.gift(-1, 0), OUTSIDE);
        check.due("13: kind 5", x.gift(5, 0), OUTSIDE);
        check.due("13: kind ahead of person", x.gift(5, 3), OUTSIDE);
        check.due("13: person 3", x.gift(0, 3), UNKNOWN);
        check.due("13: person -1", x.gift(0, -1), UNKNOWN);
        check.due("13: none came", x.count(1), 0);
        for (int g = 0; g < 8; g++) check.due("13: gift " + g, x.gift(0, 0), g);
        check.due("13: a ninth", x.gift(0, 0), GivenGoesOn.FULL);
        check.due("13: kind ahead of full", x.gift(9, 0), OUTSIDE);
        check.due("13: person ahead of full", x.gift(0, 9), UNKNOWN);
    }

    private static void toldRefused() {
        GivenGoesOn x = ring(new GivenGoesOn(), 3, 0);
        x.gift(0, 0);
        for (int n : NO_GIFT) check.due("14: told(" + n + ")", x.told(n, 9), UNKNOWN);
        check.due("14: what -1", x.told(0, -1), OUTSIDE);
        check.due("14: what 9", x.told(0, 9), OUTSIDE);
    }

    private static void kinds() {
        GivenGoesOn x = ring(new GivenGoesOn(), 3, 0);
        for (int kind = 0; kind < 5; kind++) x.gift(kind, 0);
        for (int g = 0; g < 5; g++) {
            for (int kind = 0; kind < 5; kind++) {
                boolean is = kind == PLAIN || kind == g || (g == SPOON && kind == CUP);
                check.due("15: as(" + g + ", " + kind + ")", x.as(g, kind), is ? g : NONE);
            }
        }
        check.due("15: gift 5", x.as(5, 0), UNKNOWN);
        check.due("15: gift ahead of kind", x.as(-1, 5), UNKNOWN);
        check.due("15: kind 5", x.as(0, 5), OUTSIDE);
        check.due("15: kind -1", x.as(0, -1), OUTSIDE);
    }

    private static void whoMayHave() {
        GivenGoesOn x = Check.people(new GivenGoesOn(), 0, 0, 0, 0);
        x.gift(PLAIN, 0);
        check.due("16: who knows nobody", x.may(0), 0);
        Check.chain(x, 0, 1, 2, 3);
        x.know(1, 3, true);
        check.due("16: at first", x.may(0), 2);
        x.give(0, 1);
        check.due("16: not back", x.may(0), 12);
        x.give(0, 3);
        check.due("16: just one", x.may(0), 4);
        x.know(3, 2, false);
        check.due("16: nobody but from", x.may(0), 0);
    }

    private static void backByLaw() {
        GivenGoesOn x = Check.chain(Check.people(Check.withLaw("b"), 0, 0, 0), 0, 1, 2);
        x.gift(PLAIN, 0);
        x.give(0, 1);
        check.due("16: another one may", x.may(0), 4);
        x.give(0, 2);
        check.due("16: back, if nobody else may", x.may(0), 2);
        x.know(1, 2, false);
        check.due("16: from does not know the holder", x.may(0), 0);
        x.know(0, 2, true);
        check.due("16: home may", x.may(0), 1);
    }

    private static void mayRefused() {
        GivenGoesOn x = ring(new GivenGoesOn(), 3, 0);
        x.gift(PLAIN, 0);
        for (int n : NO_GIFT) check.due("16: may(" + n + ")", x.may(n), UNKNOWN);
        x.give(0, 1);
        x.give(0, 2);
        x.give(0, 0);
        check.due("16: it is dead", x.may(0), STATE);
    }

    private static void givenByHand() {
        GivenGoesOn x = ring(Check.withLaw("k3"), 3, 0);
        x.gift(HOUSE, 0);
        x.years(2);
        check.due("14: kept", x.told(0, 5), 2);
        check.due("17: whatever it was kept", x.give(0, 1), 0);
        toldDue(x, 0, HOUSE, 0, 1, 0, 1, 0, 9, 0, 1);
        check.due("17: on", x.give(0, 2), 0);
        check.due("17: home", x.give(0, 0), 1);
        toldDue(x, 0, HOUSE, 0, 0, 2, 3, 0, 7, 1, 3);
        check.due("32: a feast", x.count(4), 1);
        check.due("32: none lives", x.count(2), 0);
    }

    private static void wearByKind() {
        int[] want = {1, 1, 0, 1, 2};
        for (int kind = 0; kind < 5; kind++) {
            GivenGoesOn x = ring(Check.withLaw("w9"), 4, 0);
            x.gift(kind, 0);
            x.give(0, 1);
            check.due("14: wear of kind " + kind, x.told(0, 4), want[kind]);
            x.give(0, 2);
            check.due("14: wear of kind " + kind + ", then", x.told(0, 4), 2 * want[kind]);
        }
    }

    private static void cupsBreak() {
        GivenGoesOn x = ring(new GivenGoesOn(), 6, 0);
        for (int kind = 0; kind < 5; kind++) x.gift(kind, 0);
        for (int kind = 0; kind < 5; kind++) {
            x.give(kind, 1);
            check.due("17: second of kind " + kind, x.give(kind, 2), kind == SPOON ? 2 : 0);
        }
        check.due("17: the cup at three", x.give(CUP, 3), 2);
        check.due("17: no other kind", x.give(PLAIN, 3) + x.give(HOUSE, 3) + x.give(TALE, 3), 0);
        toldDue(x, CUP, CUP, 0, 3, 2, 3, 0, 7, 2, 3);
        toldDue(x, SPOON, SPOON, 0, 2, 1, 4, 0, 6, 2, 2);
        check.due("11: thanks for what broke", x.owes(3, 2), 8 + 8 + 8 + 12);
        check.due("32: three live", x.count(2), 3);
        GivenGoesOn y = ring(Check.withLaw("w1"), 3, 0);
        y.gift(CUP, 0);
        check.due("17: at one", y.give(0, 1), 2);
        check.due("17: then dead", y.give(0, 2), STATE);
    }

    private static void breakingComesAheadOfHome() {
        GivenGoesOn x = ring(new GivenGoesOn(), 3, 0);
        x.gift(CUP, 0);
        x.give(0, 1);
        x.give(0, 2);
        check.due("17: it broke at the door", x.give(0, 0), 2);
        check.due("32: no feast", x.count(4), 0);
        check.due("10: no feast there", x.about(0, 3), 0);
    }

    private static void worthOfTales() {
        GivenGoesOn x = Check.people(new GivenGoesOn(), 0, 0, 0, 0);
        Check.chain(x, 0, 1, 2, 3, 1);
        x.gift(TALE, 0);
        x.give(0, 1);
        for (int i = 0; i < 11; i++) {
            check.due("14: hands", x.told(0, 8), i + 1);
            check.due("14: worth of a tale", x.told(0, 6), 10 + Math.min(i + 1, 9));
            x.give(0, new int[] {2, 3, 1}[i % 3]);
        }
        check.due("14: the hands go on", x.told(0, 8), 12);
        check.due("14: its worth does not", x.told(0, 6), 19);
        // 2 to 3 three times at 12, 15, 18, then at 19 once more
        check.due("11: thanks for a tale", x.owes(3, 2), 12 + 15 + 18 + 19);
    }

    private static void leastWorth() {
        GivenGoesOn x = Check.people(new GivenGoesOn(), 0, 0, 0, 0);
        Check.chain(x, 0, 1, 2, 3, 1);
        x.gift(PLAIN, 0);
        x.give(0, 1);
        for (int i = 0; i < 11; i++) {
            check.due("14: worth", x.told(0, 6), Math.max(1, 9 - i));
            x.give(0, new int[] {2, 3, 1}[i % 3]);
        }
        check.due("14: wear", x.told(0, 4), 12);
        check.due("14: worth at last", x.told(0, 6), 1);
    }

    private static void giveRefused() {
        GivenGoesOn x = ring(new GivenGoesOn(), 4, 0);
        x.gift(PLAIN, 0);
        for (int n : NO_GIFT) check.due("17: give(" + n + ")", x.give(n, 1), UNKNOWN);
        check.due("17: person 4", x.give(0, 4), UNKNOWN);
        check.due("17: person -1", x.give(0, -1), UNKNOWN);
        check.due("17: oneself", x.give(0, 0), STATE);
        check.due("17: a stranger", x.give(0, 2), STATE);
        x.give(0, 1);
        check.due("17: back", x.give(0, 0), STATE);
        x.give(0, 2);
        x.give(0, 3);
        x.give(0, 0);
        check.due("17: person ahead of the dead", x.give(0, 4), UNKNOWN);
        check.due("17: dead", x.give(0, 1), STATE);
        check.due("11: nothing more owed", x.owes(1, 0), 10);
    }

    private static void yearsRefused() {
        GivenGoesOn x = new GivenGoesOn();
        for (int n : new int[] {0, -1, 31, Integer.MIN_VALUE, Integer.MAX_VALUE}) {
            check.due("18: years(" + n + ")", x.years(n), OUTSIDE);
        }
        check.due("32: none went", x.count(3), 0);
        check.due("18: one", x.years(1), 0);
        check.due("18: thirty", x.years(30), 0);
        check.due("32: years", x.count(3), 31);
    }

    private static void keepByLaw() {
        String[] laws = {"", "k1", "k2", "k3"};
        int[] keeps = {1, 1, 2, 3};
        for (int i = 0; i < laws.length; i++) {
            for (int kind = 0; kind < 5; kind++) {
                GivenGoesOn x = ring(Check.withLaw(laws[i]), 5, 0);
                x.gift(kind, 0);
                int keep = kind == HOUSE ? keeps[i] + 1 : keeps[i];
                for (int y = 1; y < keep; y++) check.due("18: kept by " + laws[i], x.years(1), 0);
                check.due("14: kept so long by " + laws[i], x.told(0, 5), keep - 1);
                check.due("18: goes by " + laws[i], x.years(1), 1);
                check.due("14: kept anew by " + laws[i], x.told(0, 5), 0);
            }
        }
    }

    private static int goesTo(int habit) {
        GivenGoesOn x = Check.people(new GivenGoesOn(), 0, 0, habit, 0, 0);
        for (int p : new int[] {0, 1, 3, 4}) x.know(2, p, true);
        x.like(2, 1, 4);
        x.like(2, 3, 4);
        x.like(0, 2, 9);
        x.gift(PLAIN, 2);
        x.gift(HOUSE, 0);
        x.gift(HOUSE, 3);
        x.gift(HOUSE, 3);
        x.years(1);
        return x.told(0, 2);
    }

    private static void habits() {
        check.due("18: to the least", goesTo(0), 0);
        check.due("18: to the greatest", goesTo(1), 4);
        check.due("18: to whom it likes best, the least of like ones", goesTo(2), 1);
        check.due("18: to who has fewest, the least of like ones", goesTo(3), 1);
    }

    private static void fewestThen() {
        GivenGoesOn x = Check.people(new GivenGoesOn(), 3, 0, 0);
        x.know(0, 1, true);
        x.know(0, 2, true);
        for (int g = 0; g < 3; g++) x.gift(PLAIN, 0);
        check.due("18: three went", x.years(1), 3);
        check.due("18: the first", x.told(0, 2), 1);
        check.due("18: the second, to who has none then", x.told(1, 2), 2);
        check.due("18: the third", x.told(2, 2), 1);
        GivenGoesOn y = ring(new GivenGoesOn(), 4, 3);
        y.gift(CUP, 1);
        y.give(0, 2);
        y.give(0, 3);
        y.give(0, 0);
        y.gift(PLAIN, 3);
        y.gift(HOUSE, 2);
        y.years(1);
        check.due("18: the dead do not count", y.told(1, 2), 0);
    }

    private static void oneAYear() {
        GivenGoesOn x = ring(Check.withLaw("o"), 5, 1);
        for (int g = 0; g < 3; g++) x.gift(PLAIN, 0);
        check.due("18: one of three", x.years(1), 1);
        check.due("18: the first", x.told(0, 2), 4);
        check.due("18: the second waits", x.told(1, 5), 1);
        check.due("18: then one of each holder", x.years(1), 2);
        check.due("18: the third waits on", x.told(2, 5), 2);
        GivenGoesOn y = ring(new GivenGoesOn(), 5, 1);
        for (int g = 0; g < 3; g++) y.gift(PLAIN, 0);
        check.due("18: all three without o", y.years(1), 3);
    }

    private static void handsDoNotCountForTheYear() {
        GivenGoesOn x = ring(Check.withLaw("o"), 5, 1);
        x.gift(PLAIN, 0);
        x.gift(PLAIN, 0);
        x.gift(PLAIN, 0);
        check.due("17: by hand", x.give(0, 1), 0);
        check.due("17: by hand again", x.give(1, 1), 0);
        check.due("18: one of each holder", x.years(1), 2);
    }

    private static void whatCantGoWaits() {
        GivenGoesOn x = Check.chain(Check.people(new GivenGoesOn(), 0, 0), 0, 1);
        x.gift(PLAIN, 0);
        check.due("18: it goes", x.years(1), 1);
        check.due("18: it can't", x.years(3), 0);
        toldDue(x, 0, PLAIN, 0, 1, 0, 1, 3, 9, 0, 1);
        x.letters(Check.packed("b"));
        x.law();
        check.due("18: home by b", x.years(1), 1);
        toldDue(x, 0, PLAIN, 0, 0, 1, 2, 0, 8, 1, 2);
        check.due("10: a feast", x.about(0, 3), 1);
    }

    private static void deadStayDead() {
        GivenGoesOn x = ring(new GivenGoesOn(), 3, 0);
        x.gift(CUP, 0);
        x.gift(PLAIN, 0);
        check.due("18: both, three years", x.years(30), 6);
        toldDue(x, 0, CUP, 0, 0, 2, 3, 0, 7, 2, 3);
        toldDue(x, 1, PLAIN, 0, 0, 2, 3, 0, 7, 1, 3);
        check.due("32: one feast", x.count(4), 1);
    }
}
