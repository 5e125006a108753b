import java.util.Random;

/** Runs of 512 calls, by fixed seeds, on the class and on the plain model side by side. */
public final class ModelTest {
    private static final int CALLS = 512;
    private static final String[] LAWS = {"", "k1", "k2", "k3", "b", "o", "w1", "w5", "bo", "k2b", "k2bo", "bow9", "k3bow7",
        "k", "w", "kb", "ob", "x", "w3b", "k4"};
    private static final int[] ODD = {-1, 8, 9, 17, 31, 100, -101, Integer.MIN_VALUE, Integer.MAX_VALUE};

    private final Check check;
    private final Random random;
    private final GivenGoesOn x = new GivenGoesOn();
    private final Model m = new Model();
    private final int run;
    /** Of a hundred numbers so many are odd ones. */
    private final int oddness;
    /** Of a hundred times that two are told of, so often they come to know each other. */
    private final int closeness;

    private ModelTest(Check check, int run) {
        this.check = check;
        this.run = run;
        random = new Random(run);
        oddness = new int[] {0, 2, 15}[run % 3];
        closeness = new int[] {40, 60, 75}[run / 3 % 3];
    }

    public static void main(String[] args) {
        Check check = new Check("ModelTest");
        for (int run = 0; run < 180; run++) new ModelTest(check, run).go();
        check.end();
    }

    private void go() {
        int people = 1 + random.nextInt(8);
        for (int i = 0; i < people; i++) call(3);
        for (int i = 0; i < 2 * people; i++) call(4);
        int begun = 3 * people;
        for (int i = begun; i < CALLS - 1; i++) call(kindOfCall());
        due("digest()", x.digest(), m.digest());
    }

    private int kindOfCall() {
        int kind = random.nextInt(36);
        // People are few and come at first: else no image could be gone back to.
        return kind == 3 && random.nextInt(8) != 0 ? 11 : kind;
    }

    private int n(int bound) {
        if (random.nextInt(100) < oddness) return ODD[random.nextInt(ODD.length)];
        return random.nextInt(bound);
    }

    private int person() {
        return n(Math.max(1, m.count(0)));
    }

    private int gift() {
        return n(Math.max(1, m.count(1)));
    }

    private void due(String call, long got, long want) {
        check.due("run " + run + ": " + call, got, want);
    }

    private long word() {
        if (random.nextInt(6) == 0) return random.nextLong() >>> random.nextInt(64);
        return Check.packed(LAWS[random.nextInt(LAWS.length)]);
    }

    private void call(int kind) {
        if (kind < 11) callOfLawAndPeople(kind);
        else if (kind < 20) callOfGifts(kind);
        else callOfTheRest(kind);
    }

    private void callOfLawAndPeople(int kind) {
        int a = person();
        int b = person();
        int what = n(5);
        long w = word();
        boolean is = random.nextInt(100) < closeness;
        switch (kind) {
            case 0 -> due("letters(" + w + ")", x.letters(w), m.letters(w));
            case 1 -> due("blank()", x.blank(), m.blank());
            case 2 -> {
                due("fault()", x.fault(), m.fault());
                due("law()", x.law(), m.law());
            }
            case 3 -> due("person(" + what + ")", x.person(what), m.person(what));
            case 4, 5 -> due("know(" + a + ", " + b + ", " + is + ")", x.know(a, b, is), m.know(a, b, is));
            case 6, 7 -> due("like(" + a + ", " + b + ", " + what + ")", x.like(a, b, what), m.like(a, b, what));
            case 8 -> due("about(" + a + ", " + what + ")", x.about(a, what), m.about(a, what));
            case 9 -> due("owes(" + a + ", " + b + ")", x.owes(a, b), m.owes(a, b));
            default -> due("rest(" + a + ")", x.rest(a), m.rest(a));
        }
    }

    private void callOfGifts(int kind) {
        int a = person();
        int g = gift();
        int what = n(10);
        int ofKind = n(5);
        int years = n(4);
        switch (kind) {
            case 11, 12 -> due("gift(" + ofKind + ", " + a + ")", x.gift(ofKind, a), m.gift(ofKind, a));
            case 13 -> due("told(" + g + ", " + what + ")", x.told(g, what), m.told(g, what));
            case 14 -> due("as(" + g + ", " + ofKind + ")", x.as(g, ofKind), m.as(g, ofKind));
            case 15 -> due("may(" + g + ")", x.may(g), m.may(g));
            case 16, 17, 18 -> due("give(" + g + ", " + a + ")", x.give(g, a), m.give(g, a));
            default -> due("years(" + years + ")", x.years(years), m.years(years));
        }
    }

    private void callOfTheRest(int kind) {
        int a = person();
        int b = person();
        int g = gift();
        int years = n(9);
        int year = n(8);
        int seed = random.nextInt();
        int what = n(4);
        int part = n(2);
        int of = random.nextBoolean() ? n(2) : 10 + n(8);
        switch (kind) {
            case 20 -> due("ways(" + g + ", " + years + ")", x.ways(g, years), m.ways(g, years));
            case 21 -> due("soonest(" + g + ")", x.soonest(g), m.soonest(g));
            case 22, 23 -> due("likely(" + g + ", " + year + ", " + part + ")", x.likely(g, year, part), m.likely(g, year, part));
            case 24 -> due("traps()", x.traps(), m.traps());
            case 25, 26 -> due("round(" + of + ")", x.round(of), m.round(of));
            case 27 -> due("stranger(" + a + ", " + b + ", " + part + ")", x.stranger(a, b, part), m.stranger(a, b, part));
            case 28 -> due("drawn(" + years * 3 + ", " + seed + ", " + what + ")",
                x.drawn(years * 3, seed, what), m.drawn(years * 3, seed, what));
            case 29 -> due("open(" + a + ", " + year + ")", x.open(a, year), m.open(a, year));
            case 30 -> due("write(" + year + ", " + b + ")", x.write(year, b), m.write(year, b));
            case 31 -> due("filled()", x.filled(), m.filled());
            case 32 -> due("sure(" + year + ")", x.sure(year), m.sure(year));
            case 33 -> callOfImages();
            case 34 -> due("count(" + year + ")", x.count(year), m.count(year));
            default -> due("digest()", x.digest(), m.digest());
        }
    }

    private void callOfImages() {
        if (random.nextInt(3) == 0) due("image()", x.image(), m.image());
        else due("restore()", x.restore(), m.restore());
    }
}
