import java.util.List;
import java.util.function.Supplier;
import java.util.function.ToLongFunction;

/**
 * Each refusal of each call, the order of refusals where several hold at once, and that a refused
 * call changes nothing: all that the object answers is as of one that was made alike and not called.
 */
public final class RefusalsTest {
    private static final int UNKNOWN = GivenGoesOn.UNKNOWN, OUTSIDE = GivenGoesOn.OUTSIDE;
    private static final int STATE = GivenGoesOn.STATE, FULL = GivenGoesOn.FULL;
    private static final int REST_UNKNOWN = -100001;
    private static final int LIVING = 0, HOME_AGAIN = 2, BROKEN = 3;

    /**
     * Far off, and such that a shift by them (32, 33), eight times them (1 shifted by 29 or 30),
     * a byte of them (256) or them less one (the least int) would wrap to a number that is one.
     */
    private static final int[] FAR = {-2, -8, -101, 32, 33, 64, 256, 1 << 16, 1 << 28, 1 << 29, (1 << 29) + 1, 1 << 30,
        Integer.MIN_VALUE, Integer.MIN_VALUE + 1, Integer.MAX_VALUE - 1, Integer.MAX_VALUE};

    private static final Check check = new Check("RefusalsTest");

    private final String name;
    private final Supplier<GivenGoesOn> made;
    private final List<String> untouched;

    /** Refusals in a world that is made anew for each of them. */
    private RefusalsTest(String name, Supplier<GivenGoesOn> made) {
        this.name = name;
        this.made = made;
        untouched = Answers.of(made);
    }

    public static void main(String[] args) {
        RefusalsTest usual = new RefusalsTest("the usual world", RefusalsTest::usualWorld);
        RefusalsTest full = new RefusalsTest("the full world", RefusalsTest::fullWorld);
        RefusalsTest bare = new RefusalsTest("a new object", GivenGoesOn::new);
        RefusalsTest grown = new RefusalsTest("the grown world", RefusalsTest::grownWorld);
        theWorldsAreAsMeant();
        usual.lettersOutside();
        bare.lettersOutside();
        full.lettersFull();
        lettersFullByOne();
        laws();
        usual.ofPeople(4);
        full.ofPeople(8);
        bare.ofPeople(0);
        full.personFull();
        usual.ofPairs(4);
        full.ofPairs(8);
        usual.ofGifts(6, 4);
        full.ofGifts(8, 8);
        bare.ofGifts(0, 0);
        full.giftFull();
        usual.ofTheDead();
        usual.giveToWhoMayNot();
        usual.ofNumbersTold();
        bare.ofNumbersTold();
        usual.ofWouldBe();
        usual.openRefused(4);
        full.openRefused(8);
        bare.ofNoBook();
        usual.ofTheBook(3, 4);
        full.ofTheBook(7, 8);
        bare.refused("restore()", x -> x.restore(), STATE);
        grown.refused("restore()", x -> x.restore(), STATE);
        check.end();
    }

    /** Four people; gifts that live, died home, broke; a law, a page, a book, an image of what was before. */
    private static GivenGoesOn usualWorld() {
        GivenGoesOn x = Check.people(Check.withLaw("k2bow5"), 0, 1, 2, 3);
        Check.chain(x, 0, 1, 2, 3, 0, 2);
        x.like(0, 1, 9);
        x.like(3, 2, 4);
        x.gift(0, 0);
        x.gift(1, 1);
        x.gift(2, 0);
        x.gift(4, 3);
        for (int p : new int[] {1, 2, 0}) x.give(HOME_AGAIN, p);
        for (int p : new int[] {2, 1, 0}) x.give(BROKEN, p);
        x.image();
        x.gift(3, 3);
        x.years(3);
        x.gift(2, 2);
        x.like(1, 0, 7);
        x.letters(Check.packed("kx"));
        x.open(1, 3);
        x.write(2, 3);
        return x;
    }

    /** All that can be: eight people, eight gifts, sixteen letters, a book of seven years. */
    private static GivenGoesOn fullWorld() {
        GivenGoesOn x = Check.people(new GivenGoesOn(), 0, 1, 2, 3, 0, 1, 2, 3);
        Check.chain(x, 0, 1, 2, 3, 4, 5, 6, 7, 0);
        for (int g = 0; g < 8; g++) x.gift(g % 5, g);
        x.image();
        x.years(2);
        x.letters(Check.packed("k1bow1zz"));
        x.letters(Check.packed("zzzzzzzz"));
        x.open(7, 7);
        x.write(7, 0);
        return x;
    }

    /** Somebody came since the image. */
    private static GivenGoesOn grownWorld() {
        GivenGoesOn x = Check.chain(Check.people(new GivenGoesOn(), 0, 0), 0, 1);
        x.gift(0, 0);
        x.image();
        x.years(1);
        x.person(0);
        return x;
    }

    private static void theWorldsAreAsMeant() {
        GivenGoesOn x = usualWorld();
        check.due("usual: people", x.count(0), 4);
        check.due("usual: gifts", x.count(1), 6);
        check.due("usual: the first lives", x.told(LIVING, 7), 0);
        check.due("usual: the third died home", x.told(HOME_AGAIN, 7), 1);
        check.due("usual: the fourth broke", x.told(BROKEN, 7), 2);
        check.due("usual: letters", x.count(5), 2);
        GivenGoesOn y = fullWorld();
        check.due("full: people", y.count(0), 8);
        check.due("full: gifts", y.count(1), 8);
        check.due("full: letters", y.count(5), 16);
    }

    private void refused(String call, ToLongFunction<GivenGoesOn> asked, long want) {
        String told = name + ": " + call;
        check.due(told, asked.applyAsLong(made.get()), want);
        List<String> touched = Answers.of(() -> {
            GivenGoesOn x = made.get();
            asked.applyAsLong(x);
            return x;
        });
        for (int i = 0; i < Math.max(touched.size(), untouched.size()); i++) {
            String is = i < touched.size() ? touched.get(i) : "nothing";
            String was = i < untouched.size() ? untouched.get(i) : "nothing";
            check.due(told + " changed [" + was + "] to [" + is + "]", is.equals(was) ? 0 : 1, 0);
        }
    }

    /** One below the least, one above the greatest, and those far off. */
    private static int[] noneOf(int least, int greatest) {
        int[] all = new int[FAR.length + 2];
        all[0] = least - 1;
        all[1] = greatest + 1;
        int many = 2;
        for (int n : FAR) if (n < least || n > greatest) all[many++] = n;
        return java.util.Arrays.copyOf(all, many);
    }

    // Promise 2: OUTSIDE: a byte above 126, or one behind a 0 that is not 0

    private void lettersOutside() {
        for (int place = 0; place < 8; place++) {
            for (long code : new long[] {127, 128, 129, 200, 254, 255}) {
                long w = 0;
                for (int i = 0; i < place; i++) w |= 97L << (8 * i);
                long with = w | code << (8 * place);
                refused("letters, " + code + " at " + place, x -> x.letters(with), OUTSIDE);
            }
        }
        for (int zero = 0; zero < 7; zero++) {
            for (int behind = zero + 1; behind < 8; behind++) {
                long w = 1L << (8 * behind);
                for (int i = 0; i < zero; i++) w |= 97L << (8 * i);
                long with = w;
                refused("letters, 0 at " + zero + ", 1 at " + behind, x -> x.letters(with), OUTSIDE);
            }
        }
        refused("letters of the least long", x -> x.letters(Long.MIN_VALUE), OUTSIDE);
        refused("letters of the greatest long", x -> x.letters(Long.MAX_VALUE), OUTSIDE);
        refused("letters of -1", x -> x.letters(-1L), OUTSIDE);
    }

    // Promise 2: FULL: above 16

    private void lettersFull() {
        refused("one letter", x -> x.letters(1), FULL);
        refused("eight letters", x -> x.letters(Check.packed("kkkkkkkk")), FULL);
        refused("letters, OUTSIDE ahead of FULL: 127", x -> x.letters(127), OUTSIDE);
        refused("letters, OUTSIDE ahead of FULL: behind a 0", x -> x.letters(0x010001), OUTSIDE);
    }

    private static void lettersFullByOne() {
        for (int had = 9; had <= 16; had++) {
            int letters = had;
            Supplier<GivenGoesOn> made = () -> {
                GivenGoesOn x = new GivenGoesOn();
                for (int i = 0; i < letters; i++) x.letters('a' + i);
                return x;
            };
            RefusalsTest page = new RefusalsTest("a page of " + had, made);
            for (int more = 17 - had; more <= 8; more++) {
                long w = Check.packed("zzzzzzzz".substring(0, more));
                page.refused(more + " letters", x -> x.letters(w), FULL);
            }
        }
    }

    // Promise 5: STATE: it is none

    private static void laws() {
        String[] none = {"k", "w", "k0", "k4", "w0", "w:", "bb", "oo", "ob", "wb", "w1b", "w1o", "bk1", "ok1", "kb", "k1k1",
            "k1bow", "k1bow10", "1", "K1", " ", "k1 ", "k3bow9k", "bowbowbowbowbowb"};
        for (String text : none) {
            Supplier<GivenGoesOn> made = () -> {
                GivenGoesOn x = Check.withLaw("k2bow5");
                for (int i = 0; i < text.length(); i++) x.letters(text.charAt(i));
                return x;
            };
            new RefusalsTest("THE PAGE " + text, made).refused("law()", x -> x.law(), STATE);
        }
    }

    // Promises 7, 10, 12, 13: a PERSON that is none

    private void ofPeople(int people) {
        for (int n : noneOf(0, people - 1)) {
            for (int what : new int[] {0, 3}) refused("about(" + n + ", " + what + ")", x -> x.about(n, what), UNKNOWN);
            refused("about, UNKNOWN ahead of OUTSIDE: " + n, x -> x.about(n, 4), UNKNOWN);
            refused("about, UNKNOWN ahead of OUTSIDE: " + n + ", -1", x -> x.about(n, -1), UNKNOWN);
            refused("rest(" + n + ")", x -> x.rest(n), REST_UNKNOWN);
            refused("gift(0, " + n + ")", x -> x.gift(0, n), UNKNOWN);
            refused("gift(4, " + n + ")", x -> x.gift(4, n), UNKNOWN);
            for (int kind : noneOf(0, 4)) {
                refused("gift, OUTSIDE ahead of UNKNOWN: " + kind + ", " + n, x -> x.gift(kind, n), OUTSIDE);
            }
            refused("stranger(" + n + ", 0, 0)", x -> x.stranger(n, 0, 0), UNKNOWN);
            refused("stranger(0, " + n + ", 1)", x -> x.stranger(0, n, 1), UNKNOWN);
            refused("stranger(" + n + ", " + n + ", 0)", x -> x.stranger(n, n, 0), UNKNOWN);
            refused("stranger, UNKNOWN ahead of OUTSIDE: a " + n, x -> x.stranger(n, 0, 2), UNKNOWN);
            refused("stranger, UNKNOWN ahead of OUTSIDE: b " + n, x -> x.stranger(0, n, -1), UNKNOWN);
        }
        for (int habit : noneOf(0, 3)) refused("person(" + habit + ")", x -> x.person(habit), OUTSIDE);
        for (int p : people == 0 ? new int[0] : new int[] {0, people - 1}) {
            for (int what : noneOf(0, 3)) refused("about(" + p + ", " + what + ")", x -> x.about(p, what), OUTSIDE);
            for (int kind : noneOf(0, 4)) refused("gift(" + kind + ", " + p + ")", x -> x.gift(kind, p), OUTSIDE);
            for (int what : noneOf(0, 1)) {
                refused("stranger(0, " + p + ", " + what + ")", x -> x.stranger(0, p, what), OUTSIDE);
            }
        }
    }

    private void personFull() {
        for (int habit = 0; habit < 4; habit++) {
            int of = habit;
            refused("person(" + of + ") of a ninth", x -> x.person(of), FULL);
        }
    }

    // Promises 8, 9, 11: UNKNOWN: a, b, or they are the same

    private void ofPairs(int people) {
        for (int n : noneOf(0, people - 1)) pairRefused(n, n);
        for (int n : noneOf(0, people - 1)) {
            for (int p : new int[] {0, people - 1}) {
                pairRefused(n, p);
                pairRefused(p, n);
            }
        }
        for (int p = 0; p < people; p++) pairRefused(p, p);
        for (int v : noneOf(0, 9)) {
            refused("like(0, " + (people - 1) + ", " + v + ")", x -> x.like(0, people - 1, v), OUTSIDE);
            refused("like(" + (people - 1) + ", 0, " + v + ")", x -> x.like(people - 1, 0, v), OUTSIDE);
        }
    }

    private void pairRefused(int a, int b) {
        String two = "(" + a + ", " + b;
        refused("know" + two + ", true)", x -> x.know(a, b, true), UNKNOWN);
        refused("know" + two + ", false)", x -> x.know(a, b, false), UNKNOWN);
        refused("like" + two + ", 5)", x -> x.like(a, b, 5), UNKNOWN);
        refused("like, UNKNOWN ahead of OUTSIDE: " + two + ", 10)", x -> x.like(a, b, 10), UNKNOWN);
        refused("like, UNKNOWN ahead of OUTSIDE: " + two + ", -1)", x -> x.like(a, b, -1), UNKNOWN);
        refused("owes" + two + ")", x -> x.owes(a, b), UNKNOWN);
    }

    // Promises 14 to 17, 19 to 21: a GIFT that is none

    private void ofGifts(int gifts, int people) {
        for (int n : noneOf(0, gifts - 1)) {
            refused("told(" + n + ", 0)", x -> x.told(n, 0), UNKNOWN);
            refused("told, UNKNOWN ahead of OUTSIDE: " + n, x -> x.told(n, 9), UNKNOWN);
            refused("as(" + n + ", 0)", x -> x.as(n, 0), UNKNOWN);
            refused("as, UNKNOWN ahead of OUTSIDE: " + n, x -> x.as(n, 5), UNKNOWN);
            refused("may(" + n + ")", x -> x.may(n), UNKNOWN);
            refused("give(" + n + ", 0)", x -> x.give(n, 0), UNKNOWN);
            refused("give(" + n + ", -1)", x -> x.give(n, -1), UNKNOWN);
            refused("ways(" + n + ", 1)", x -> x.ways(n, 1), UNKNOWN);
            refused("ways, UNKNOWN ahead of OUTSIDE: " + n, x -> x.ways(n, 0), UNKNOWN);
            refused("soonest(" + n + ")", x -> x.soonest(n), UNKNOWN);
            refused("likely(" + n + ", 1, 0)", x -> x.likely(n, 1, 0), UNKNOWN);
            refused("likely, UNKNOWN ahead of OUTSIDE: " + n + ", years", x -> x.likely(n, 8, 0), UNKNOWN);
            refused("likely, UNKNOWN ahead of OUTSIDE: " + n + ", part", x -> x.likely(n, 1, 2), UNKNOWN);
        }
        for (int g = 0; g < gifts; g++) {
            int gift = g;
            for (int what : noneOf(0, 8)) refused("told(" + g + ", " + what + ")", x -> x.told(gift, what), OUTSIDE);
            for (int kind : noneOf(0, 4)) refused("as(" + g + ", " + kind + ")", x -> x.as(gift, kind), OUTSIDE);
            for (int p : noneOf(0, people - 1)) refused("give(" + g + ", " + p + ")", x -> x.give(gift, p), UNKNOWN);
        }
    }

    private void giftFull() {
        for (int k = 0; k < 5; k++) {
            int kind = k;
            refused("gift(" + kind + ", 0) of a ninth", x -> x.gift(kind, 0), FULL);
        }
        refused("gift, OUTSIDE ahead of FULL", x -> x.gift(5, 0), OUTSIDE);
        refused("gift, OUTSIDE ahead of UNKNOWN and FULL", x -> x.gift(-1, 8), OUTSIDE);
        refused("gift, UNKNOWN ahead of FULL", x -> x.gift(0, 8), UNKNOWN);
        refused("gift, UNKNOWN ahead of FULL: -1", x -> x.gift(0, -1), UNKNOWN);
    }

    // Promises 16, 17, 19 to 21: STATE: it does not live

    private void ofTheDead() {
        for (int dead : new int[] {HOME_AGAIN, BROKEN}) {
            refused("may(" + dead + ")", x -> x.may(dead), STATE);
            refused("soonest(" + dead + ")", x -> x.soonest(dead), STATE);
            for (int p = 0; p < 4; p++) {
                int to = p;
                refused("give(" + dead + ", " + p + ")", x -> x.give(dead, to), STATE);
            }
            refused("give, UNKNOWN ahead of STATE: 4", x -> x.give(dead, 4), UNKNOWN);
            refused("give, UNKNOWN ahead of STATE: -1", x -> x.give(dead, -1), UNKNOWN);
            for (int n = 0; n <= 9; n++) {
                int years = n;
                refused("ways(" + dead + ", " + n + "), STATE ahead of OUTSIDE", x -> x.ways(dead, years), STATE);
                for (int part = -1; part <= 2; part++) {
                    int of = part;
                    refused("likely(" + dead + ", " + n + ", " + part + "), STATE ahead of OUTSIDE",
                        x -> x.likely(dead, years, of), STATE);
                }
            }
        }
    }

    // Promise 17: STATE: that one may not have it

    private void giveToWhoMayNot() {
        GivenGoesOn x = made.get();
        int may = x.may(LIVING);
        check.due("usual: somebody may have the first, somebody not", may != 0 && may != 15 ? 1 : 0, 1);
        for (int p = 0; p < 4; p++) {
            int to = p;
            if ((may >> p) % 2 == 0) refused("give(0, " + p + ") to who may not", y -> y.give(LIVING, to), STATE);
        }
    }

    // Promises 6, 18, 23, 25, 32: OUTSIDE

    private void ofNumbersTold() {
        for (int what : noneOf(0, 3)) refused("lawTold(" + what + ")", x -> x.lawTold(what), OUTSIDE);
        for (int years : noneOf(1, 30)) refused("years(" + years + ")", x -> x.years(years), OUTSIDE);
        for (int what = 2; what <= 9; what++) {
            int of = what;
            refused("round(" + what + ")", x -> x.round(of), OUTSIDE);
        }
        for (int what : noneOf(0, 17)) refused("round(" + what + ")", x -> x.round(what), OUTSIDE);
        for (int years : noneOf(1, 30)) refused("drawn(" + years + ", 0, 0)", x -> x.drawn(years, 0, 0), OUTSIDE);
        for (int seed : new int[] {-1, -2, -12345, Integer.MIN_VALUE}) {
            refused("drawn(1, " + seed + ", 0)", x -> x.drawn(1, seed, 0), OUTSIDE);
        }
        for (int what : noneOf(0, 3)) refused("drawn(1, 0, " + what + ")", x -> x.drawn(1, 0, what), OUTSIDE);
        refused("drawn(31, -1, 4)", x -> x.drawn(31, -1, 4), OUTSIDE);
        for (int what : noneOf(0, 6)) refused("count(" + what + ")", x -> x.count(what), OUTSIDE);
    }

    // Promises 19, 21: OUTSIDE: years, part

    private void ofWouldBe() {
        for (int years : noneOf(1, 8)) refused("ways(0, " + years + ")", x -> x.ways(LIVING, years), OUTSIDE);
        for (int years : noneOf(1, 7)) {
            refused("likely(0, " + years + ", 0)", x -> x.likely(LIVING, years, 0), OUTSIDE);
            refused("likely(0, " + years + ", 2)", x -> x.likely(LIVING, years, 2), OUTSIDE);
        }
        for (int part : noneOf(0, 1)) refused("likely(0, 1, " + part + ")", x -> x.likely(LIVING, 1, part), OUTSIDE);
    }

    // Promise 26: UNKNOWN: person; OUTSIDE: years (1 to 7)

    private void openRefused(int people) {
        for (int n : noneOf(0, people - 1)) {
            refused("open(" + n + ", 1)", x -> x.open(n, 1), UNKNOWN);
            refused("open, UNKNOWN ahead of OUTSIDE: " + n + ", 0", x -> x.open(n, 0), UNKNOWN);
            refused("open, UNKNOWN ahead of OUTSIDE: " + n + ", 8", x -> x.open(n, 8), UNKNOWN);
        }
        for (int years : noneOf(1, 7)) {
            refused("open(0, " + years + ")", x -> x.open(0, years), OUTSIDE);
            refused("open(" + (people - 1) + ", " + years + ")", x -> x.open(people - 1, years), OUTSIDE);
        }
    }

    // Promises 27 to 29: STATE: no BOOK

    private void ofNoBook() {
        for (int year = 0; year <= 8; year++) {
            int of = year;
            refused("write(" + year + ", -1)", x -> x.write(of, -1), STATE);
            refused("write(" + year + ", 8), STATE ahead of UNKNOWN", x -> x.write(of, 8), STATE);
            refused("sure(" + year + "), STATE ahead of UNKNOWN", x -> x.sure(of), STATE);
        }
        refused("filled()", x -> x.filled(), STATE);
        refused("open(0, 1) of nobody", x -> x.open(0, 1), UNKNOWN);
    }

    // Promises 27, 29: UNKNOWN: year, v

    private void ofTheBook(int years, int people) {
        for (int year : noneOf(1, years)) {
            for (int v : new int[] {-1, 0, people - 1, people}) {
                refused("write(" + year + ", " + v + ")", x -> x.write(year, v), UNKNOWN);
            }
            refused("sure(" + year + ")", x -> x.sure(year), UNKNOWN);
        }
        for (int v : noneOf(-1, people - 1)) {
            for (int year : new int[] {1, years}) refused("write(" + year + ", " + v + ")", x -> x.write(year, v), UNKNOWN);
        }
    }
}
