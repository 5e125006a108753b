import java.util.ArrayList;
import java.util.List;
import java.util.function.Supplier;

/**
 * All that an object holds, by what it answers. Each part asks an object of its own, made alike,
 * so that none of them comes near its 512th call.
 */
final class Answers {
    private static final int MOST_BOOK_YEARS = 7;

    private Answers() {
    }

    static List<String> of(Supplier<GivenGoesOn> made) {
        List<String> all = new ArrayList<>();
        ofLawAndCounts(made.get(), all);
        ofPeopleAndGifts(made.get(), all);
        ofPairs(made.get(), all);
        ofTheBook(made.get(), all);
        GivenGoesOn image = made.get();
        all.add("restore " + image.restore());
        ofPeopleAndGifts(image, all);
        GivenGoesOn again = made.get();
        again.restore();
        ofPairs(again, all);
        return all;
    }

    private static void ofLawAndCounts(GivenGoesOn x, List<String> all) {
        for (int what = 0; what < 4; what++) all.add("lawTold " + what + ": " + x.lawTold(what));
        for (int what = 0; what < 7; what++) all.add("count " + what + ": " + x.count(what));
        all.add("fault " + x.fault());
        all.add("digest " + x.digest());
        all.add("law " + x.law());
    }

    private static void ofPeopleAndGifts(GivenGoesOn x, List<String> all) {
        for (int p = 0; p < x.count(0); p++) {
            for (int what = 0; what < 4; what++) all.add("about " + p + ", " + what + ": " + x.about(p, what));
        }
        for (int g = 0; g < x.count(1); g++) {
            for (int what = 0; what < 9; what++) all.add("told " + g + ", " + what + ": " + x.told(g, what));
        }
        all.add("years " + x.count(3));
    }

    private static void ofPairs(GivenGoesOn x, List<String> all) {
        int people = x.count(0);
        for (int a = 0; a < people; a++) {
            for (int b = 0; b < people; b++) {
                if (a == b) continue;
                all.add("owes " + a + ", " + b + ": " + x.owes(a, b));
                all.add("like " + a + ", " + b + ": " + x.like(a, b, 0));
            }
        }
    }

    private static void ofTheBook(GivenGoesOn x, List<String> all) {
        all.add("filled " + x.filled());
        for (int year = 1; year <= MOST_BOOK_YEARS; year++) {
            all.add("sure " + year + ": " + x.sure(year));
            all.add("written " + year + ": " + x.write(year, -1));
        }
    }
}
