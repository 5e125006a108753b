/** Promises 7 to 12 at their edges; each test tells the words of the document that it holds to. */
public final class PeopleEdgesTest {
    private static final Check check = new Check("PeopleEdgesTest");

    public static void main(String[] args) {
        eightAtMostNumbered();
        habitsFrom0To3();
        eitherWayOfEachPair();
        notAtFirst();
        knowTwiceAndNotTwice();
        likingFrom0To9();
        likingIsOfEachPairItsOwn();
        holdsFromNoneToEight();
        feastsFromNoneToEight();
        asBitsOfNobodyAndOfAll();
        owedNothingAtFirst();
        owedByEachPair();
        eachOwesTheOther();
        whoKnowNoMoreLikeAndOweAsBefore();
        restMayBeBelow0();
        restOfOneAlone();
        check.end();
    }

    private static GivenGoesOn eight() {
        return Check.people(new GivenGoesOn(), 0, 1, 2, 3, 3, 2, 1, 0);
    }

    // "PEOPLE (8 at most, numbered)"
    private static void eightAtMostNumbered() {
        GivenGoesOn x = new GivenGoesOn();
        for (int p = 0; p < 8; p++) {
            check.due("7: not yet " + p, x.about(p, 0), GivenGoesOn.UNKNOWN);
            check.due("7: its number", x.person(0), p);
            check.due("7: it is there", x.about(p, 0), 0);
            check.due("32: people", x.count(0), p + 1);
        }
        check.due("7: the ninth", x.person(0), GivenGoesOn.FULL);
        check.due("32: eight", x.count(0), 8);
    }

    // "a HABIT: 0 .., 1 .., 2 .., 3 .." as "about: what = 0 HABIT"
    private static void habitsFrom0To3() {
        GivenGoesOn x = eight();
        int[] habits = {0, 1, 2, 3, 3, 2, 1, 0};
        for (int p = 0; p < 8; p++) check.due("10: habit of " + p, x.about(p, 0), habits[p]);
    }

    // "Two KNOW each other (either way)"
    private static void eitherWayOfEachPair() {
        for (int a = 0; a < 8; a++) {
            for (int b = 0; b < 8; b++) {
                if (a == b) continue;
                GivenGoesOn x = eight();
                check.due("8: " + a + ", " + b, x.know(a, b, true), 0);
                for (int p = 0; p < 8; p++) {
                    int want = p == a ? 1 << b : p == b ? 1 << a : 0;
                    check.due("10: whom " + p + " knows", x.about(p, 2), want);
                }
                check.due("8: the other way", x.know(b, a, false), 1);
                check.due("10: known no more", x.about(a, 2) + x.about(b, 2), 0);
            }
        }
    }

    // "or not (at first)"
    private static void notAtFirst() {
        GivenGoesOn x = eight();
        for (int a = 0; a < 8; a++) {
            check.due("10: nobody, " + a, x.about(a, 2), 0);
            for (int b = 0; b < 8; b++) {
                if (a != b) check.due("8: not at first " + a + ", " + b, x.know(a, b, false), 0);
            }
        }
    }

    // "Two KNOW each other, or not: whether they did (1, 0)"
    private static void knowTwiceAndNotTwice() {
        GivenGoesOn x = eight();
        check.due("8: did not", x.know(7, 0, false), 0);
        check.due("8: did not then", x.know(0, 7, true), 0);
        check.due("8: did", x.know(7, 0, true), 1);
        check.due("10: once", x.about(0, 2), 128);
        check.due("8: did still", x.know(0, 7, false), 1);
        check.due("8: did no more", x.know(7, 0, false), 0);
        check.due("10: nobody", x.about(0, 2) + x.about(7, 2), 0);
    }

    // "LIKING of one for another one is 0 to 9 (0 at first)"
    private static void likingFrom0To9() {
        GivenGoesOn x = eight();
        int was = 0;
        for (int v = 0; v <= 9; v++) {
            check.due("9: becomes " + v, x.like(0, 7, v), was);
            was = v;
        }
        check.due("9: 10", x.like(0, 7, 10), GivenGoesOn.OUTSIDE);
        check.due("9: -1", x.like(0, 7, -1), GivenGoesOn.OUTSIDE);
        check.due("9: 9 stays", x.like(0, 7, 0), 9);
        check.due("9: 0", x.like(0, 7, 0), 0);
    }

    private static void likingIsOfEachPairItsOwn() {
        GivenGoesOn x = eight();
        for (int a = 0; a < 8; a++) {
            for (int b = 0; b < 8; b++) {
                if (a != b) check.due("9: at first " + a + ", " + b, x.like(a, b, (3 * a + b) % 10), 0);
            }
        }
        for (int a = 0; a < 8; a++) {
            for (int b = 0; b < 8; b++) {
                if (a != b) check.due("9: of " + a + " for " + b, x.like(a, b, 0), (3 * a + b) % 10);
            }
        }
    }

    // "about: 1 how many GIFTS that live it holds"
    private static void holdsFromNoneToEight() {
        GivenGoesOn x = eight();
        for (int g = 0; g < 8; g++) {
            check.due("10: holds " + g, x.about(7, 1), g);
            x.gift(g % 5, 7);
        }
        check.due("10: holds eight", x.about(7, 1), 8);
        check.due("10: the others hold none", x.about(0, 1) + x.about(6, 1), 0);
    }

    // "about: 3 how many FEASTS at its door"
    private static void feastsFromNoneToEight() {
        GivenGoesOn x = Check.chain(Check.people(new GivenGoesOn(), 0, 0, 0), 0, 1, 2, 0);
        for (int g = 0; g < 8; g++) x.gift(0, 2);
        for (int g = 0; g < 8; g++) {
            check.due("10: feasts " + g, x.about(2, 3), g);
            x.give(g, 1);
            x.give(g, 0);
            check.due("17: home", x.give(g, 2), 1);
        }
        check.due("10: eight feasts", x.about(2, 3), 8);
        check.due("10: no other feasts", x.about(0, 3) + x.about(1, 3), 0);
        check.due("32: eight feasts", x.count(4), 8);
        check.due("10: it holds none that lives", x.about(2, 1), 0);
    }

    // "about: 2 whom it KNOWS, as bits"
    private static void asBitsOfNobodyAndOfAll() {
        GivenGoesOn x = eight();
        for (int a = 0; a < 8; a++) {
            for (int b = 0; b < a; b++) x.know(a, b, true);
        }
        for (int p = 0; p < 8; p++) check.due("10: all but " + p, x.about(p, 2), 255 - (1 << p));
    }

    private static void owedNothingAtFirst() {
        GivenGoesOn x = eight();
        for (int a = 0; a < 8; a++) {
            check.due("12: rest at first of " + a, x.rest(a), 0);
            for (int b = 0; b < 8; b++) {
                if (a != b) check.due("11: at first " + a + ", " + b, x.owes(a, b), 0);
            }
        }
    }

    // "OWES of one to another one: thanks owed so far"
    private static void owedByEachPair() {
        for (int giver = 0; giver < 8; giver++) {
            for (int taker = 0; taker < 8; taker++) {
                if (giver == taker) continue;
                GivenGoesOn x = eight();
                x.know(giver, taker, true);
                x.gift(0, giver);
                x.give(0, taker);
                check.due("11: " + taker + " owes " + giver, x.owes(taker, giver), 10);
                check.due("11: not the other way", x.owes(giver, taker), 0);
                check.due("12: rest of the giver", x.rest(giver), 10);
                check.due("12: rest of the taker", x.rest(taker), -10);
            }
        }
    }

    // "thanks owed so far" - what comes the other way lessens nothing of it
    private static void eachOwesTheOther() {
        GivenGoesOn x = Check.chain(Check.people(new GivenGoesOn(), 0, 0), 0, 1);
        x.gift(2, 0);
        x.gift(2, 1);
        x.gift(0, 1);
        for (int g = 0; g < 3; g++) x.give(g, g == 0 ? 1 : 0);
        check.due("11: 1 owes 0", x.owes(1, 0), 10);
        check.due("11: 0 owes 1", x.owes(0, 1), 20);
        check.due("12: rest of 0", x.rest(0), -10);
        check.due("12: rest of 1", x.rest(1), 10);
    }

    // LIKING and what is OWED are told of any two, whether they KNOW each other or not
    private static void whoKnowNoMoreLikeAndOweAsBefore() {
        GivenGoesOn x = Check.chain(Check.people(new GivenGoesOn(), 0, 0), 0, 1);
        x.like(0, 1, 4);
        x.like(1, 0, 9);
        x.gift(0, 0);
        x.give(0, 1);
        for (int i = 0; i < 2; i++) {
            x.know(0, 1, i == 1);
            check.due("9: liking stays", x.like(0, 1, 4), 4);
            check.due("9: liking of the other stays", x.like(1, 0, 9), 9);
            check.due("11: owed still", x.owes(1, 0), 10);
            check.due("12: rest", x.rest(0), 10);
            check.due("14: FROM stays", x.told(0, 3), 0);
        }
    }

    // "REST (it may be below 0)": "what all owe it less what it owes"
    private static void restMayBeBelow0() {
        GivenGoesOn x = eight();
        for (int p = 0; p < 7; p++) x.know(7, p, true);
        for (int p = 0; p < 7; p++) x.gift(p % 2 == 0 ? 0 : 2, p);
        for (int p = 0; p < 7; p++) x.give(p, 7);
        check.due("12: owed by one to all", x.rest(7), -70);
        check.due("17: one goes on", x.give(1, 0), 0);
        check.due("12: a tale of one hand more", x.rest(7), -59);
        check.due("12: it is owed and owes", x.rest(0), 10 - 11);
        int all = 0;
        for (int p = 0; p < 8; p++) all += x.rest(p);
        check.due("12: all together", all, 0);
    }

    private static void restOfOneAlone() {
        GivenGoesOn x = Check.people(new GivenGoesOn(), 0);
        check.due("12: alone", x.rest(0), 0);
        check.due("12: another one", x.rest(1), -100001);
    }
}
