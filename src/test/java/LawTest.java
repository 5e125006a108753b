/** Promises 1 to 6: a new object, the page, the law. */
public final class LawTest {
    private static final Check check = new Check("LawTest");

    public static void main(String[] args) {
        newObject();
        lettersCome();
        lettersRefused();
        pageIsBlanked();
        faults();
        lawsAreRead();
        lawsAreRefused();
        lawIsTold();
        check.end();
    }

    private static void newObject() {
        GivenGoesOn x = new GivenGoesOn();
        for (int what = 0; what <= 6; what++) check.due("1: count(" + what + ")", x.count(what), 0);
        check.due("1: lawTold(0)", x.lawTold(0), 1);
        check.due("1: lawTold(1)", x.lawTold(1), 0);
        check.due("1: lawTold(2)", x.lawTold(2), 0);
        check.due("1: lawTold(3)", x.lawTold(3), 3);
        check.due("1: about(0, 0)", x.about(0, 0), GivenGoesOn.UNKNOWN);
        check.due("1: told(0, 0)", x.told(0, 0), GivenGoesOn.UNKNOWN);
        check.due("1: fault()", x.fault(), 0);
        check.due("1: filled()", x.filled(), GivenGoesOn.STATE);
        check.due("1: restore()", x.restore(), GivenGoesOn.STATE);
    }

    private static void lettersCome() {
        GivenGoesOn x = new GivenGoesOn();
        check.due("2: none", x.letters(0), 0);
        check.due("2: one", x.letters(1), 1);
        check.due("2: the greatest", x.letters(126), 2);
        check.due("2: eight", x.letters(Check.packed("~~~~~~~~")), 10);
        check.due("2: six more", x.letters(Check.packed("abcdef")), 16);
        check.due("2: none on a full page", x.letters(0), 16);
        GivenGoesOn y = new GivenGoesOn();
        y.letters(Check.packed("k2"));
        y.letters(Check.packed("bo"));
        check.due("2: they come behind", y.law(), 1);
        check.due("2: in their order", y.lawTold(0), 2);
    }

    private static void lettersRefused() {
        GivenGoesOn x = new GivenGoesOn();
        check.due("2: 127", x.letters(127), GivenGoesOn.OUTSIDE);
        check.due("2: 255 at the top", x.letters(0xff61616161616161L), GivenGoesOn.OUTSIDE);
        check.due("2: 128 at the top", x.letters(0x8061616161616161L), GivenGoesOn.OUTSIDE);
        check.due("2: behind a 0", x.letters(0x610061L), GivenGoesOn.OUTSIDE);
        check.due("2: behind a 0 at first", x.letters(0x6100L), GivenGoesOn.OUTSIDE);
        check.due("2: nothing came", x.count(5), 0);
        x.letters(Check.packed("aaaaaaaa"));
        x.letters(Check.packed("aaaaaaa"));
        check.due("2: full", x.letters(Check.packed("aa")), GivenGoesOn.FULL);
        check.due("2: outside ahead of full", x.letters(0x61610061L), GivenGoesOn.OUTSIDE);
        check.due("2: still fifteen", x.count(5), 15);
        check.due("2: sixteen", x.letters(Check.packed("a")), 16);
    }

    private static void pageIsBlanked() {
        GivenGoesOn x = new GivenGoesOn();
        check.due("3: empty", x.blank(), 0);
        x.letters(Check.packed("xyz"));
        check.due("3: three", x.blank(), 3);
        check.due("3: empty then", x.count(5), 0);
        check.due("3: a law then", x.law(), 1);
    }

    private static int faultOf(String text) {
        GivenGoesOn x = new GivenGoesOn();
        for (int i = 0; i < text.length(); i++) x.letters(text.charAt(i));
        return x.fault();
    }

    private static void faults() {
        String[] whole = {"", "k1", "k2", "k3", "b", "o", "w1", "w9", "k1b", "k1o", "k1w5", "bo", "bw2",
            "ow3", "bow4", "k3bow9", "k", "k2w", "bow"};
        for (String text : whole) check.due("4: " + text, faultOf(text), text.length());
        check.due("4: k0", faultOf("k0"), 1);
        check.due("4: k4", faultOf("k4"), 1);
        check.due("4: w0", faultOf("w0"), 1);
        check.due("4: w:", faultOf("w:"), 1);
        check.due("4: kb", faultOf("kb"), 1);
        check.due("4: kk", faultOf("kk"), 1);
        check.due("4: bb", faultOf("bb"), 1);
        check.due("4: ob", faultOf("ob"), 1);
        check.due("4: oo", faultOf("oo"), 1);
        check.due("4: bk", faultOf("bk1"), 1);
        check.due("4: ok", faultOf("ok1"), 1);
        check.due("4: k1k", faultOf("k1k2"), 2);
        check.due("4: k12", faultOf("k12"), 2);
        check.due("4: w3b", faultOf("w3b"), 2);
        check.due("4: w3o", faultOf("w3o"), 2);
        check.due("4: w3w", faultOf("w3w3"), 2);
        check.due("4: w3k", faultOf("w3k1"), 2);
        check.due("4: w12", faultOf("w12"), 2);
        check.due("4: K", faultOf("K1"), 0);
        check.due("4: blank", faultOf(" k1"), 0);
        check.due("4: behind the whole", faultOf("k3bow9o"), 6);
        check.due("4: sixteen letters", faultOf("k3bow9oooooooooo"), 6);
        GivenGoesOn x = new GivenGoesOn();
        x.letters(Check.packed("k2bx"));
        x.blank();
        x.letters(Check.packed("k2"));
        check.due("4: letters that are gone", x.fault(), 2);
        check.due("5: letters that are gone", x.law(), 1);
        check.due("6: letters that are gone", x.lawTold(1), 0);
    }

    private static void lawDue(String text, int keep, int back, int one, int most) {
        GivenGoesOn x = new GivenGoesOn();
        x.letters(Check.packed("k3bow9"));
        x.law();
        x.letters(Check.packed(text));
        check.due("5: " + text, x.law(), 2);
        check.due("5: page behind " + text, x.count(5), 0);
        check.due("5: reads behind " + text, x.count(6), 2);
        check.due("6: keep of " + text, x.lawTold(0), keep);
        check.due("6: back of " + text, x.lawTold(1), back);
        check.due("6: one of " + text, x.lawTold(2), one);
        check.due("6: most of " + text, x.lawTold(3), most);
    }

    private static void lawsAreRead() {
        lawDue("", 1, 0, 0, 3);
        lawDue("k1", 1, 0, 0, 3);
        lawDue("k2", 2, 0, 0, 3);
        lawDue("k3", 3, 0, 0, 3);
        lawDue("b", 1, 1, 0, 3);
        lawDue("o", 1, 0, 1, 3);
        lawDue("w1", 1, 0, 0, 1);
        lawDue("w9", 1, 0, 0, 9);
        lawDue("k2b", 2, 1, 0, 3);
        lawDue("k2o", 2, 0, 1, 3);
        lawDue("bw4", 1, 1, 0, 4);
        lawDue("k3bow7", 3, 1, 1, 7);
    }

    private static void lawsAreRefused() {
        for (String text : new String[] {"k", "w", "k4", "k0", "bb", "ob", "k2bow", "bk1", "x", "w3o", "w10"}) {
            GivenGoesOn x = Check.withLaw("k2bw5");
            x.letters(Check.packed(text));
            check.due("5: " + text, x.law(), GivenGoesOn.STATE);
            check.due("5: page kept of " + text, x.count(5), text.length());
            check.due("5: keep stays, " + text, x.lawTold(0), 2);
            check.due("5: back stays, " + text, x.lawTold(1), 1);
            check.due("5: most stays, " + text, x.lawTold(3), 5);
            check.due("5: reads stay, " + text, x.count(6), 1);
        }
    }

    private static void lawIsTold() {
        GivenGoesOn x = new GivenGoesOn();
        for (int what : new int[] {-1, 4, Integer.MIN_VALUE, Integer.MAX_VALUE}) {
            check.due("6: lawTold(" + what + ")", x.lawTold(what), GivenGoesOn.OUTSIDE);
        }
    }
}
