/** Promises 7 to 12: people, whom they know and like, what they owe. */
public final class PeopleTest {
    private static final int UNKNOWN = GivenGoesOn.UNKNOWN, OUTSIDE = GivenGoesOn.OUTSIDE;
    private static final int REST_UNKNOWN = -100001;
    private static final int[] NOBODY_OF_TWO = {-1, 2, 8, Integer.MIN_VALUE, Integer.MAX_VALUE};
    private static final Check check = new Check("PeopleTest");

    public static void main(String[] args) {
        peopleCome();
        peopleKnow();
        knowingRefused();
        liking();
        likingRefused();
        aboutPeople();
        aboutRefused();
        thanks();
        thanksRefused();
        check.end();
    }

    private static void peopleCome() {
        GivenGoesOn x = new GivenGoesOn();
        check.due("7: habit -1", x.person(-1), OUTSIDE);
        check.due("7: habit 4", x.person(4), OUTSIDE);
        for (int i = 0; i < 8; i++) check.due("7: person " + i, x.person(i % 4), i);
        check.due("7: a ninth", x.person(0), GivenGoesOn.FULL);
        check.due("7: outside ahead of full", x.person(4), OUTSIDE);
        check.due("7: eight", x.count(0), 8);
        for (int i = 0; i < 8; i++) check.due("10: habit of " + i, x.about(i, 0), i % 4);
    }

    private static void peopleKnow() {
        GivenGoesOn x = Check.people(new GivenGoesOn(), 0, 0, 0);
        check.due("8: at first", x.know(0, 2, false), 0);
        check.due("8: come to know", x.know(0, 2, true), 0);
        check.due("8: from the other side", x.know(2, 0, true), 1);
        check.due("10: whom 0 knows", x.about(0, 2), 4);
        check.due("10: whom 2 knows", x.about(2, 2), 1);
        x.know(0, 1, true);
        check.due("10: both", x.about(0, 2), 6);
        check.due("8: no more", x.know(2, 0, false), 1);
        check.due("10: one left", x.about(0, 2), 2);
        check.due("10: nobody left", x.about(2, 2), 0);
    }

    private static void knowingRefused() {
        GivenGoesOn x = Check.people(new GivenGoesOn(), 0, 0);
        for (int n : NOBODY_OF_TWO) {
            check.due("8: know(" + n + ", 0)", x.know(n, 0, true), UNKNOWN);
            check.due("8: know(0, " + n + ")", x.know(0, n, true), UNKNOWN);
        }
        check.due("8: oneself", x.know(1, 1, true), UNKNOWN);
        check.due("8: nobody is known", x.about(0, 2) + x.about(1, 2), 0);
    }

    private static void liking() {
        GivenGoesOn x = Check.people(new GivenGoesOn(), 0, 0);
        check.due("9: at first", x.like(0, 1, 9), 0);
        check.due("9: then", x.like(0, 1, 0), 9);
        check.due("9: 0 is kept", x.like(0, 1, 5), 0);
        check.due("9: the other way is another", x.like(1, 0, 3), 0);
        check.due("9: and stays so", x.like(0, 1, 5), 5);
    }

    private static void likingRefused() {
        GivenGoesOn x = Check.people(new GivenGoesOn(), 0, 0);
        for (int n : NOBODY_OF_TWO) {
            check.due("9: like(" + n + ", 0)", x.like(n, 0, 3), UNKNOWN);
            check.due("9: like(0, " + n + ")", x.like(0, n, 3), UNKNOWN);
        }
        check.due("9: oneself", x.like(0, 0, 3), UNKNOWN);
        check.due("9: unknown ahead of outside", x.like(0, 0, 10), UNKNOWN);
        check.due("9: 10", x.like(0, 1, 10), OUTSIDE);
        check.due("9: -1", x.like(0, 1, -1), OUTSIDE);
        check.due("9: nothing changed", x.like(0, 1, 1), 0);
    }

    private static void aboutPeople() {
        GivenGoesOn x = Check.chain(Check.people(new GivenGoesOn(), 0, 1, 2), 0, 1, 2, 0);
        x.gift(0, 0);
        x.gift(1, 0);
        check.due("10: holds two", x.about(0, 1), 2);
        x.give(0, 1);
        check.due("10: holds one", x.about(0, 1), 1);
        x.give(0, 2);
        check.due("10: no feast yet", x.about(0, 3), 0);
        x.give(0, 0);
        check.due("10: the dead one is not held", x.about(0, 1), 1);
        check.due("10: a feast at 0", x.about(0, 3), 1);
        check.due("10: none at 1", x.about(1, 3), 0);
    }

    private static void aboutRefused() {
        GivenGoesOn x = Check.people(new GivenGoesOn(), 0, 0);
        for (int n : NOBODY_OF_TWO) check.due("10: about(" + n + ")", x.about(n, 9), UNKNOWN);
        check.due("10: what -1", x.about(0, -1), OUTSIDE);
        check.due("10: what 4", x.about(0, 4), OUTSIDE);
    }

    private static void thanks() {
        GivenGoesOn x = Check.chain(Check.people(new GivenGoesOn(), 0, 0, 0), 0, 1, 2, 0);
        x.gift(0, 0);
        check.due("11: nothing at first", x.owes(1, 0), 0);
        x.give(0, 1);
        check.due("11: its worth ahead of the giving", x.owes(1, 0), 10);
        check.due("11: not the other way", x.owes(0, 1), 0);
        x.give(0, 2);
        check.due("11: worn by one", x.owes(2, 1), 9);
        x.give(0, 0);
        check.due("11: thanks for what came home, too", x.owes(0, 2), 8);
        check.due("12: rest of 0", x.rest(0), 2);
        check.due("12: rest of 1", x.rest(1), -1);
        check.due("12: rest of 2", x.rest(2), -1);
        x.gift(0, 0);
        x.give(1, 1);
        check.due("11: thanks come together", x.owes(1, 0), 20);
    }

    private static void thanksRefused() {
        GivenGoesOn x = Check.people(new GivenGoesOn(), 0, 0);
        for (int n : NOBODY_OF_TWO) {
            check.due("11: owes(" + n + ", 0)", x.owes(n, 0), UNKNOWN);
            check.due("11: owes(0, " + n + ")", x.owes(0, n), UNKNOWN);
            check.due("12: rest(" + n + ")", x.rest(n), REST_UNKNOWN);
        }
        check.due("11: oneself", x.owes(1, 1), UNKNOWN);
        check.due("12: nothing owed", x.rest(1), 0);
    }
}
