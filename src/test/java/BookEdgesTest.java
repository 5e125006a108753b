/** Promises 26 to 29 at their edges; each test tells the words of the document that it holds to. */
public final class BookEdgesTest {
    private static final int NONE = GivenGoesOn.NONE, UNKNOWN = GivenGoesOn.UNKNOWN, STATE = GivenGoesOn.STATE;
    private static final Check check = new Check("BookEdgesTest");

    public static void main(String[] args) {
        from1To7();
        allHoles();
        howManyPeopleThereAre();
        anotherBookIsGone();
        theYearsOfTheBook();
        whoMayBeWritten();
        whatWasWritten();
        filledOfOneYear();
        filledAsManyAsCanBe();
        filledOfWhoKnowsNobody();
        notToWhomItCameFrom();
        notHome();
        byThisAlone();
        writtenIsHeldToTheSame();
        withoutHoles();
        sureOfEachYear();
        sureOfNone();
        sureOfTheGreatestAndTheLeast();
        sureByTheYearsBehind();
        askingWritesNothing();
        theBookOutlivesTheImage();
        check.end();
    }

    private static GivenGoesOn people(int many) {
        GivenGoesOn x = new GivenGoesOn();
        for (int i = 0; i < many; i++) x.person(0);
        return x;
    }

    private static GivenGoesOn ring(int many) {
        GivenGoesOn x = people(many);
        for (int i = 0; i < many; i++) x.know(i, (i + 1) % many, true);
        return x;
    }

    private static GivenGoesOn line(int many) {
        GivenGoesOn x = people(many);
        for (int i = 0; i + 1 < many; i++) x.know(i, i + 1, true);
        return x;
    }

    private static GivenGoesOn allKnowAll(int many) {
        GivenGoesOn x = people(many);
        for (int a = 0; a < many; a++) {
            for (int b = 0; b < a; b++) x.know(a, b, true);
        }
        return x;
    }

    // "so many YEARS (1 to 7)"
    private static void from1To7() {
        for (int years = 1; years <= 7; years++) {
            GivenGoesOn x = line(8);
            check.due("26: years " + years, x.open(0, years), 8);
            check.due("28: years " + years, x.filled(), 1);
            for (int y = 1; y <= years; y++) check.due("29: year " + y + " of " + years, x.sure(y), y);
            check.due("29: beyond " + years, x.sure(years + 1), UNKNOWN);
        }
        GivenGoesOn y = line(8);
        check.due("26: 0 years", y.open(0, 0), GivenGoesOn.OUTSIDE);
        check.due("26: 8 years", y.open(0, 8), GivenGoesOn.OUTSIDE);
        check.due("28: no book", y.filled(), STATE);
    }

    // "THE BOOK of a GIFT begun by one: all HOLES"
    private static void allHoles() {
        for (int years = 1; years <= 7; years++) {
            GivenGoesOn x = people(8);
            x.open(7, years);
            for (int y = 1; y <= years; y++) check.due("26: a hole", x.write(y, NONE), NONE);
        }
    }

    // "how many PEOPLE there are"
    private static void howManyPeopleThereAre() {
        for (int many = 1; many <= 8; many++) check.due("26: of " + many, people(many).open(many - 1, 1), many);
        check.due("26: of nobody", new GivenGoesOn().open(0, 1), UNKNOWN);
    }

    // "(another BOOK is gone)" - its begin, its YEARS, what was WRITTEN
    private static void anotherBookIsGone() {
        GivenGoesOn x = ring(4);
        x.open(0, 3);
        x.write(1, 1);
        x.write(3, 2);
        x.open(2, 1);
        check.due("26: a hole", x.write(1, NONE), NONE);
        check.due("26: of one year", x.write(2, NONE), UNKNOWN);
        x.open(1, 7);
        for (int y = 1; y <= 7; y++) check.due("26: a hole in " + y, x.write(y, NONE), NONE);
        x.open(1, 2);
        check.due("28: begun by 1", x.filled(), 2);
        check.due("29: to 3, both ways", x.sure(2), 3);
    }

    // "Who had it in a YEAR (from 1)"
    private static void theYearsOfTheBook() {
        for (int years = 1; years <= 7; years++) {
            GivenGoesOn x = people(2);
            x.open(0, years);
            check.due("27: year 0", x.write(0, 1), UNKNOWN);
            check.due("27: year 1", x.write(1, 1), NONE);
            check.due("27: the last year", x.write(years, 0), years == 1 ? 1 : NONE);
            check.due("27: beyond", x.write(years + 1, 1), UNKNOWN);
            check.due("29: year 0", x.sure(0), UNKNOWN);
            check.due("29: beyond", x.sure(years + 1), UNKNOWN);
        }
    }

    // "becomes v (a PERSON, or -1)"
    private static void whoMayBeWritten() {
        for (int many = 1; many <= 8; many++) {
            GivenGoesOn x = people(many);
            x.open(0, 1);
            int was = NONE;
            for (int v = NONE; v < many; v++) {
                check.due("27: " + v, x.write(1, v), was);
                was = v;
            }
            check.due("27: -2", x.write(1, -2), UNKNOWN);
            check.due("27: " + many, x.write(1, many), UNKNOWN);
            check.due("27: the last stays", x.write(1, NONE), many - 1);
        }
    }

    // "what was WRITTEN"
    private static void whatWasWritten() {
        GivenGoesOn x = people(8);
        x.open(3, 7);
        for (int y = 1; y <= 7; y++) check.due("27: a hole", x.write(y, y), NONE);
        for (int y = 1; y <= 7; y++) check.due("27: " + y, x.write(y, 7 - y), y);
        for (int y = 1; y <= 7; y++) check.due("27: then", x.write(y, NONE), 7 - y);
        for (int y = 1; y <= 7; y++) check.due("27: a hole again", x.write(y, NONE), NONE);
    }

    private static void filledOfOneYear() {
        for (int friends = 0; friends <= 7; friends++) {
            GivenGoesOn x = people(8);
            for (int p = 1; p <= friends; p++) x.know(0, p, true);
            x.open(0, 1);
            check.due("28: one year, friends " + friends, x.filled(), friends);
            check.due("29: one year, friends " + friends, x.sure(1), friends == 1 ? 1 : NONE);
        }
    }

    private static void filledAsManyAsCanBe() {
        int[] ways = {7, 42, 210, 1050, 5250, 26250, 131250};
        for (int years = 1; years <= 7; years++) {
            GivenGoesOn x = allKnowAll(8);
            x.open(5, years);
            check.due("28: all know all, " + years, x.filled(), ways[years - 1]);
        }
    }

    private static void filledOfWhoKnowsNobody() {
        for (int years = 1; years <= 7; years++) {
            GivenGoesOn x = people(1);
            x.open(0, years);
            check.due("28: alone " + years, x.filled(), 0);
            for (int y = 1; y <= years; y++) check.due("29: alone " + y, x.sure(y), NONE);
        }
    }

    // "not to whom it came from"
    private static void notToWhomItCameFrom() {
        for (int years = 1; years <= 7; years++) {
            GivenGoesOn x = line(5);
            x.open(0, years);
            check.due("28: to the end of the line " + years, x.filled(), years <= 4 ? 1 : 0);
        }
        GivenGoesOn y = line(5);
        y.open(0, 3);
        y.write(1, 1);
        y.write(3, 1);
        check.due("28: there and back", y.filled(), 0);
    }

    // "not HOME" - in no YEAR, not in the last one either
    private static void notHome() {
        for (int years = 1; years <= 7; years++) {
            GivenGoesOn x = ring(4);
            x.open(0, years);
            check.due("28: round, " + years, x.filled(), years <= 3 ? 2 : 0);
        }
        GivenGoesOn y = ring(4);
        y.open(0, 4);
        y.write(4, 0);
        check.due("28: HOME is written", y.filled(), 0);
    }

    // "by this alone, "b" does not matter" - nor what any GIFT did, nor KEEP
    private static void byThisAlone() {
        for (String law : new String[] {"", "b", "k3", "o", "k3bow1"}) {
            GivenGoesOn x = line(3);
            x.letters(Check.packed(law));
            x.law();
            x.gift(1, 1);
            x.give(0, 2);
            x.years(3);
            x.open(0, 2);
            check.due("28: by " + law, x.filled(), 1);
            x.open(0, 3);
            check.due("28: not back by " + law, x.filled(), 0);
        }
    }

    // "(each YEAR to one ..": what is WRITTEN, too
    private static void writtenIsHeldToTheSame() {
        GivenGoesOn x = ring(5);
        x.open(0, 3);
        x.write(1, 2);
        check.due("28: to one whom HOME does not know", x.filled(), 0);
        x.write(1, 0);
        check.due("28: HOME to itself", x.filled(), 0);
        x.write(1, NONE);
        x.write(2, 0);
        check.due("28: HOME between", x.filled(), 0);
        x.write(2, NONE);
        x.write(1, 1);
        x.write(2, 1);
        check.due("28: one to himself", x.filled(), 0);
    }

    private static void withoutHoles() {
        GivenGoesOn x = ring(8);
        x.open(0, 7);
        for (int y = 1; y <= 7; y++) x.write(y, y);
        check.due("28: just so", x.filled(), 1);
        for (int y = 1; y <= 7; y++) check.due("29: just so " + y, x.sure(y), y);
        x.know(6, 7, false);
        check.due("28: it can't have been", x.filled(), 0);
        for (int y = 1; y <= 7; y++) check.due("29: it can't " + y, x.sure(y), NONE);
    }

    // "SURE of a YEAR: who had it in all of these"
    private static void sureOfEachYear() {
        GivenGoesOn x = ring(8);
        x.open(0, 7);
        check.due("28: two ways round", x.filled(), 2);
        for (int y = 1; y <= 7; y++) check.due("29: year " + y, x.sure(y), y == 4 ? 4 : NONE);
        x.write(7, 1);
        check.due("28: one way round", x.filled(), 1);
        for (int y = 1; y <= 7; y++) check.due("29: year " + y + " then", x.sure(y), 8 - y);
    }

    // "NONE: it is not (or there are no ways)"
    private static void sureOfNone() {
        GivenGoesOn x = allKnowAll(8);
        x.open(0, 7);
        for (int y = 1; y <= 7; y++) check.due("29: not sure " + y, x.sure(y), NONE);
        x.write(3, 4);
        for (int y = 1; y <= 7; y++) check.due("29: but for one " + y, x.sure(y), y == 3 ? 4 : NONE);
        x.write(4, 4);
        for (int y = 1; y <= 7; y++) check.due("29: no ways " + y, x.sure(y), NONE);
    }

    private static void sureOfTheGreatestAndTheLeast() {
        GivenGoesOn x = Check.chain(people(8), 3, 7, 0, 5);
        x.open(3, 3);
        check.due("29: the greatest", x.sure(1), 7);
        check.due("29: the least", x.sure(2), 0);
        check.due("29: another one", x.sure(3), 5);
    }

    // What is WRITTEN of a later YEAR makes an earlier one sure
    private static void sureByTheYearsBehind() {
        // 0 to 1, 2 or 3; from each of them to a friend of its own: 4, 5 or 6; then all to 7
        GivenGoesOn x = people(8);
        for (int p = 1; p <= 3; p++) Check.chain(x, 0, p, p + 3, 7);
        x.open(0, 3);
        check.due("28: three", x.filled(), 3);
        check.due("29: the last alone", x.sure(3), 7);
        check.due("29: not the first", x.sure(1), NONE);
        x.write(2, 5);
        check.due("29: the first by the second", x.sure(1), 2);
        x.write(2, 4);
        check.due("29: another first", x.sure(1), 1);
    }

    private static void askingWritesNothing() {
        GivenGoesOn x = ring(8);
        x.open(0, 7);
        x.write(2, 2);
        long ahead = x.digest();
        x.filled();
        for (int y = 1; y <= 7; y++) x.sure(y);
        check.due("33: nothing changed", x.digest(), ahead);
        for (int y = 1; y <= 7; y++) check.due("27: as it was " + y, x.write(y, NONE), y == 2 ? 2 : NONE);
    }

    private static void theBookOutlivesTheImage() {
        GivenGoesOn x = ring(4);
        x.image();
        x.know(0, 1, false);
        x.open(0, 2);
        check.due("28: one way", x.filled(), 1);
        x.restore();
        check.due("28: who knows whom is as it was", x.filled(), 2);
        check.due("29: the book stands", x.sure(2), 2);
    }
}
