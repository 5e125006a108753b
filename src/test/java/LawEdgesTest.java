import java.util.ArrayList;
import java.util.List;

/** Promises 1 to 6 at their edges; each test tells the words of the document that it holds to. */
public final class LawEdgesTest {
    private static final int STATE = GivenGoesOn.STATE;
    private static final Check check = new Check("LawEdgesTest");
    private static final List<String> LAWS = allLaws();

    public static void main(String[] args) {
        nobodyAndNoGifts();
        aNewLawIsAnEmptyText();
        upToEight();
        eachPlaceUpTo126();
        theLowestByteFirst();
        untilAByteThatIs0();
        pageOfJustSixteen();
        blankOfNoneAndOfSixteen();
        faultOfEachLetterBehindEachBeginning();
        faultOfAFullPage();
        behindAFaultNoLawBegins();
        lettersThatAreGoneAreNotRead();
        faultReadsNothing();
        eachLawIsRead();
        untoldIsAsAtFirst();
        aHouseOneYearMore();
        howOftenOneWasRead();
        theLawStaysWhenThePageIsBlanked();
        check.end();
    }

    /** KEEP 1 to 3, MOST 1 to 9, each of the four may be left out. */
    private static List<String> allLaws() {
        List<String> all = new ArrayList<>();
        for (String keep : new String[] {"", "k1", "k2", "k3"}) {
            for (String rest : new String[] {"", "b", "o", "bo"}) {
                all.add(keep + rest);
                for (int most = 1; most <= 9; most++) all.add(keep + rest + "w" + most);
            }
        }
        return all;
    }

    private static GivenGoesOn withPage(String text) {
        GivenGoesOn x = new GivenGoesOn();
        for (int i = 0; i < text.length(); i += 8) x.letters(Check.packed(text.substring(i, Math.min(i + 8, text.length()))));
        return x;
    }

    // "Nobody, no GIFTS"
    private static void nobodyAndNoGifts() {
        GivenGoesOn x = new GivenGoesOn();
        for (int n = 0; n < 8; n++) {
            check.due("1: no person " + n, x.about(n, 0), GivenGoesOn.UNKNOWN);
            check.due("1: no gift " + n, x.told(n, 0), GivenGoesOn.UNKNOWN);
        }
        check.due("1: traps of nobody", x.traps(), 0);
        check.due("1: years of nobody", x.years(30), 0);
        check.due("1: drawn of nobody", x.drawn(30, 1, 1), 0);
        check.due("1: an image of nobody", x.image(), 0);
    }

    // "THE LAW is an empty text" - and "how often one was read" is 0 at first
    private static void aNewLawIsAnEmptyText() {
        GivenGoesOn x = new GivenGoesOn();
        int[] untold = {1, 0, 0, 3};
        for (int what = 0; what < 4; what++) check.due("1: lawTold(" + what + ")", x.lawTold(what), untold[what]);
        check.due("1: none was read", x.count(6), 0);
        check.due("1: THE PAGE is empty", x.count(5), 0);
    }

    // "Letters come behind THE PAGE, up to eight"
    private static void upToEight() {
        for (int many = 0; many <= 8; many++) {
            GivenGoesOn x = new GivenGoesOn();
            check.due("2: letters at once: " + many, x.letters(Check.packed("abcdefgh".substring(0, many))), many);
            check.due("2: so many has THE PAGE", x.count(5), many);
        }
    }

    // "OUTSIDE: a byte above 126" - 126 itself and 1 are letters at every place
    private static void eachPlaceUpTo126() {
        for (int place = 0; place < 8; place++) {
            for (int code : new int[] {1, 126}) {
                StringBuilder text = new StringBuilder("aaaaaaaa");
                text.setCharAt(place, (char) code);
                check.due("2: " + code + " at " + place, new GivenGoesOn().letters(Check.packed(text.toString())), 8);
            }
        }
        for (int code = 1; code <= 126; code++) check.due("2: " + code, new GivenGoesOn().letters(code), 1);
    }

    // "told by their codes in the bytes of w, the lowest byte first" - as digest() tells them
    private static void theLowestByteFirst() {
        check.due("2: two at once", withPage("ab").digest(), digestOfPage(97, 98));
        GivenGoesOn x = new GivenGoesOn();
        x.letters(0x0201);
        x.letters(0x7e03);
        check.due("2: behind those ahead", x.digest(), digestOfPage(1, 2, 3, 126));
    }

    private static long digestOfPage(int... codes) {
        long h = 607;
        for (int it : new int[] {1, 0, 0, 3, 0, 1, 0}) h = 31 * h + it;
        for (int it : codes) h = 31 * h + it;
        for (int it : new int[] {0, 0, 0, 0, 0, codes.length, 0}) h = 31 * h + it;
        return h;
    }

    // "until a byte that is 0" - 0 at first is no letter at all
    private static void untilAByteThatIs0() {
        GivenGoesOn x = new GivenGoesOn();
        check.due("2: 0 brings none", x.letters(0), 0);
        check.due("2: 0 at the second place", x.letters('k'), 1);
        check.due("2: 0 at the eighth place", x.letters(Check.packed("aaaaaaa")), 8);
        check.due("2: no 0 at all", x.letters(Check.packed("aaaaaaaa")), 16);
        check.due("2: 0 on a full page", x.letters(0), 16);
    }

    // "FULL: above 16" - sixteen itself is not
    private static void pageOfJustSixteen() {
        for (int first = 0; first <= 8; first++) {
            GivenGoesOn x = new GivenGoesOn();
            x.letters(Check.packed("aaaaaaaa".substring(0, first)));
            x.letters(Check.packed("bbbbbbbb".substring(0, 8 - first)));
            check.due("2: eight behind eight, the first " + first, x.letters(Check.packed("cccccccc")), 16);
        }
        GivenGoesOn y = new GivenGoesOn();
        for (int i = 1; i <= 16; i++) check.due("2: one by one, " + i, y.letters('x'), i);
        check.due("2: the seventeenth", y.letters('x'), GivenGoesOn.FULL);
        y.blank();
        check.due("2: room again", y.letters(Check.packed("xxxxxxxx")), 8);
    }

    // "THE PAGE is empty: how many letters it had"
    private static void blankOfNoneAndOfSixteen() {
        GivenGoesOn x = withPage("aaaaaaaaaaaaaaaa");
        check.due("3: sixteen", x.blank(), 16);
        check.due("3: none", x.blank(), 0);
        check.due("3: empty", x.count(5), 0);
    }

    private static List<String> beginnings() {
        List<String> all = new ArrayList<>();
        for (String law : LAWS) {
            for (int end = 0; end <= law.length(); end++) {
                if (!all.contains(law.substring(0, end))) all.add(law.substring(0, end));
            }
        }
        return all;
    }

    // "The place (from 0) of the first letter of THE PAGE that no LAW has there, behind those ahead of it"
    private static void faultOfEachLetterBehindEachBeginning() {
        List<String> begun = beginnings();
        for (String ahead : begun) {
            for (int code = 1; code <= 126; code++) {
                String text = ahead + (char) code;
                GivenGoesOn x = withPage(text);
                boolean goesOn = begun.contains(text);
                check.due("4: " + code + " behind " + ahead, x.fault(), goesOn ? text.length() : ahead.length());
                check.due("5: " + code + " behind " + ahead, x.law(), LAWS.contains(text) ? 1 : STATE);
            }
        }
    }

    // "how many letters it has, if there is none" - of an empty one and of a full one, too
    private static void faultOfAFullPage() {
        check.due("4: empty", new GivenGoesOn().fault(), 0);
        check.due("4: the longest law", withPage("k3bow9").fault(), 6);
        check.due("4: the longest law and more", withPage("k3bow9bbbbbbbbbb").fault(), 6);
        check.due("4: at first", withPage("xk3bow9xxxxxxxxx").fault(), 0);
        check.due("4: the first of many", withPage("k1xbxox").fault(), 2);
    }

    // "of the first letter": a whole law behind it mends nothing
    private static void behindAFaultNoLawBegins() {
        String[] faulty = {"x", " ", "K", "1", "k0", "k4", "kk", "kb", "w0", "ww", "bb", "oo", "ob", "w3o", "k1k"};
        int[] places = {0, 0, 0, 0, 1, 1, 1, 1, 1, 1, 1, 1, 1, 2, 2};
        for (int i = 0; i < faulty.length; i++) {
            for (String law : LAWS) {
                GivenGoesOn x = withPage(faulty[i] + law);
                check.due("4: " + faulty[i] + law, x.fault(), places[i]);
                check.due("5: " + faulty[i] + law, x.law(), STATE);
            }
        }
    }

    // "THE PAGE is empty": behind a shorter text nothing of the one that was blanked is left
    private static void lettersThatAreGoneAreNotRead() {
        for (String gone : LAWS) {
            for (String law : LAWS) {
                GivenGoesOn x = withPage(gone);
                x.blank();
                x.letters(Check.packed(law));
                check.due("4: " + law + " behind the blanked " + gone, x.fault(), law.length());
                check.due("5: " + law + " behind the blanked " + gone, x.law(), 1);
                check.due("6: KEEP of " + law + " behind the blanked " + gone, x.lawTold(0), behind(law, 'k', 1));
                check.due("6: MOST of " + law + " behind the blanked " + gone, x.lawTold(3), behind(law, 'w', 3));
            }
        }
    }

    private static void faultReadsNothing() {
        GivenGoesOn x = withPage("k2b");
        x.fault();
        check.due("4: THE PAGE stays", x.count(5), 3);
        check.due("4: THE LAW stays", x.lawTold(0), 1);
        check.due("4: none was read", x.count(6), 0);
    }

    private static int behind(String law, char letter, int untold) {
        int at = law.indexOf(letter);
        return at < 0 ? untold : law.charAt(at + 1) - '0';
    }

    // "THE PAGE is read as THE LAW (another one is gone)"; "Of THE LAW: what = 0 KEEP, 1 "b", 2 "o" (1, 0), 3 MOST"
    private static void eachLawIsRead() {
        for (String law : LAWS) {
            for (String gone : new String[] {"", "k3bow9", "k1w1"}) {
                GivenGoesOn x = withPage(gone);
                x.law();
                x.letters(Check.packed(law));
                check.due("5: " + law + " behind " + gone, x.law(), 2);
                check.due("6: KEEP of " + law, x.lawTold(0), behind(law, 'k', 1));
                check.due("6: b of " + law, x.lawTold(1), law.indexOf('b') < 0 ? 0 : 1);
                check.due("6: o of " + law, x.lawTold(2), law.indexOf('o') < 0 ? 0 : 1);
                check.due("6: MOST of " + law, x.lawTold(3), behind(law, 'w', 3));
                check.due("5: THE PAGE is empty behind " + law, x.count(5), 0);
            }
        }
    }

    // "1, if it is not told"; "3, if it is not told"; "An empty text is one, too"
    private static void untoldIsAsAtFirst() {
        GivenGoesOn x = Check.withLaw("k3bow9");
        check.due("5: an empty text", x.law(), 2);
        int[] untold = {1, 0, 0, 3};
        for (int what = 0; what < 4; what++) check.due("6: lawTold(" + what + ")", x.lawTold(what), untold[what]);
    }

    // "of a HOUSE one YEAR more" - KEEP itself is told without it
    private static void aHouseOneYearMore() {
        GivenGoesOn x = Check.chain(Check.people(Check.withLaw("k3"), 0, 0), 0, 1);
        x.gift(3, 0);
        x.gift(0, 0);
        check.due("6: KEEP", x.lawTold(0), 3);
        check.due("18: the other goes in the third year", x.years(3), 1);
        check.due("18: the HOUSE in the fourth", x.years(1), 1);
    }

    // "how often one was read" - as often as an object may be asked
    private static void howOftenOneWasRead() {
        GivenGoesOn x = new GivenGoesOn();
        for (int i = 1; i <= 511; i++) check.due("5: read " + i, x.law(), i);
        check.due("32: read, as the 512th call", x.count(6), 511);
    }

    private static void theLawStaysWhenThePageIsBlanked() {
        GivenGoesOn x = Check.withLaw("k3bow9");
        x.letters(Check.packed("k1"));
        x.blank();
        check.due("3: KEEP stays", x.lawTold(0), 3);
        check.due("3: MOST stays", x.lawTold(3), 9);
        check.due("3: reads stay", x.count(6), 1);
    }
}
