/** Gifts that must go on: people, a law of going on, years stepped, and what would be. */
public final class GivenGoesOn {
    public static final int NONE = -1, UNKNOWN = -101, OUTSIDE = -102, STATE = -103, FULL = -104;

    // REST may be below 0, so the document gives its refusal a number of its own.
    private static final int REST_UNKNOWN = -100001;

    private static final int MOST_PEOPLE = 8;
    private static final int PAIRS = MOST_PEOPLE * MOST_PEOPLE;
    private static final int MOST_GIFTS = 8;
    private static final int MOST_LETTERS = 16;
    private static final int BYTES = 8;
    private static final int GREATEST_LETTER = 126;

    private static final int HABITS = 4;
    private static final int TO_LEAST = 0, TO_GREATEST = 1, TO_LIKED = 2;
    private static final int MOST_LIKING = 9;

    private static final int KINDS = 5;
    private static final int PLAIN = 0, CUP = 1, TALE = 2, HOUSE = 3, SPOON = 4;
    private static final int LIVES = 0, DIED_HOME = 1, BROKE = 2;
    private static final int FULL_WORTH = 10;
    private static final int MOST_TALE_WORTH = 9;

    private static final int MOST_YEARS = 30;
    private static final int MOST_WAY_YEARS = 8;
    private static final int MOST_LIKELY_YEARS = 7;
    private static final int MOST_BOOK_YEARS = 7;

    // 1 to 7 all divide it, and its seventh power is still a long.
    private static final long SHARES = 420;

    private static final int LAW_QUESTIONS = 4;
    private static final int PERSON_QUESTIONS = 4;
    private static final int GIFT_QUESTIONS = 9;
    private static final int STRANGER_QUESTIONS = 2;
    private static final int DRAWN_QUESTIONS = 4;
    private static final int COUNT_QUESTIONS = 7;
    private static final int FIRST_ROUND_GIVER = 10;

    private final Page page = new Page();
    private final Law law = new Law();
    private final World world = new World();
    private final World kept = new World();
    private final World trial = new World();
    private final Draws draws = new Draws();
    private final Walks walks = new Walks();
    private final Circle circle = new Circle();
    private final Book book = new Book();
    private int lawsRead;
    private boolean hasImage;

    public GivenGoesOn() {
    }

    // ---- the law

    public int letters(long w) {
        int coming = Page.lettersIn(w);
        if (coming == NONE) return OUTSIDE;
        if (page.size + coming > MOST_LETTERS) return FULL;
        page.append(w, coming);
        return page.size;
    }

    public int blank() {
        int had = page.size;
        page.size = 0;
        return had;
    }

    public int fault() {
        return page.firstFault();
    }

    public int law() {
        if (!page.isLaw()) return STATE;
        law.readFrom(page);
        page.size = 0;
        lawsRead++;
        return lawsRead;
    }

    public int lawTold(int what) {
        if (!within(what, 0, LAW_QUESTIONS - 1)) return OUTSIDE;
        switch (what) {
            case 0: return law.keep;
            case 1: return law.back ? 1 : 0;
            case 2: return law.one ? 1 : 0;
            default: return law.most;
        }
    }

    // ---- people

    public int person(int habit) {
        if (!within(habit, 0, HABITS - 1)) return OUTSIDE;
        if (world.people >= MOST_PEOPLE) return FULL;
        return world.addPerson(habit);
    }

    public int know(int a, int b, boolean is) {
        if (!areTwo(a, b)) return UNKNOWN;
        int did = world.knows(a, b) ? 1 : 0;
        world.setKnown(a, b, is);
        return did;
    }

    public int like(int a, int b, int v) {
        if (!areTwo(a, b)) return UNKNOWN;
        if (!within(v, 0, MOST_LIKING)) return OUTSIDE;
        int was = world.liking[pair(a, b)];
        world.liking[pair(a, b)] = v;
        return was;
    }

    public int about(int person, int what) {
        if (!isPerson(person)) return UNKNOWN;
        if (!within(what, 0, PERSON_QUESTIONS - 1)) return OUTSIDE;
        switch (what) {
            case 0: return world.habit[person];
            case 1: return world.heldBy(person);
            case 2: return world.known[person];
            default: return world.feasts[person];
        }
    }

    public int owes(int a, int b) {
        if (!areTwo(a, b)) return UNKNOWN;
        return world.owed[pair(a, b)];
    }

    public int rest(int person) {
        if (!isPerson(person)) return REST_UNKNOWN;
        return world.balance(person);
    }

    // ---- gifts

    public int gift(int kind, int person) {
        if (!within(kind, 0, KINDS - 1)) return OUTSIDE;
        if (!isPerson(person)) return UNKNOWN;
        if (world.gifts >= MOST_GIFTS) return FULL;
        return world.addGift(kind, person);
    }

    public int told(int gift, int what) {
        if (!isGift(gift)) return UNKNOWN;
        if (!within(what, 0, GIFT_QUESTIONS - 1)) return OUTSIDE;
        Gift one = world.row[gift];
        switch (what) {
            case 0: return one.kind;
            case 1: return one.home;
            case 2: return one.holder;
            case 3: return one.from;
            case 4: return one.wear;
            case 5: return one.age;
            case 6: return one.worth();
            case 7: return one.fate;
            default: return one.hands;
        }
    }

    public int as(int gift, int kind) {
        if (!isGift(gift)) return UNKNOWN;
        if (!within(kind, 0, KINDS - 1)) return OUTSIDE;
        return world.row[gift].isOf(kind) ? gift : NONE;
    }

    public int may(int gift) {
        if (!isGift(gift)) return UNKNOWN;
        if (!world.row[gift].lives()) return STATE;
        return whoMayHave(gift);
    }

    public int give(int gift, int person) {
        if (!isGift(gift) || !isPerson(person)) return UNKNOWN;
        if (!world.row[gift].lives()) return STATE;
        if ((whoMayHave(gift) & bit(person)) == 0) return STATE;
        world.handOn(world.row[gift], person, law.most);
        return world.row[gift].fate;
    }

    public int years(int years) {
        if (!within(years, 1, MOST_YEARS)) return OUTSIDE;
        int given = 0;
        for (int y = 0; y < years; y++) given += world.passYear(law, null);
        return given;
    }

    // ---- what would be

    public int ways(int gift, int years) {
        if (!isGift(gift)) return UNKNOWN;
        if (!world.row[gift].lives()) return STATE;
        if (!within(years, 1, MOST_WAY_YEARS)) return OUTSIDE;
        Gift one = world.row[gift];
        walks.begin(one.from, one.holder);
        long home = 0;
        for (int y = 0; y < years; y++) home = walks.goOn(world, law.back, one.home, false);
        return (int) home;
    }

    public int soonest(int gift) {
        if (!isGift(gift)) return UNKNOWN;
        if (!world.row[gift].lives()) return STATE;
        Gift one = world.row[gift];
        walks.begin(one.from, one.holder);
        for (int y = 1; y <= MOST_WAY_YEARS; y++) {
            if (walks.goOn(world, law.back, one.home, false) > 0) return y;
        }
        return NONE;
    }

    public long likely(int gift, int years, int part) {
        if (!isGift(gift)) return UNKNOWN;
        if (!world.row[gift].lives()) return STATE;
        if (!within(years, 1, MOST_LIKELY_YEARS) || !within(part, 0, 1)) return OUTSIDE;
        Gift one = world.row[gift];
        walks.begin(one.from, one.holder);
        long above = 0;
        long below = 1;
        for (int y = 0; y < years; y++) {
            above = above * SHARES + walks.goOn(world, law.back, one.home, true);
            below = below * SHARES;
        }
        long common = greatestCommon(above, below);
        if (common == 0) return NONE;
        return (part == 0 ? above : below) / common;
    }

    public int traps() {
        int bits = 0;
        for (int p = 0; p < world.people; p++) {
            // Whoever gave it is the one that may not have it: just who knows one alone is caught.
            if (Integer.bitCount(world.known[p]) == 1) bits |= bit(p);
        }
        return bits;
    }

    public int round(int what) {
        boolean ofGiver = within(what, FIRST_ROUND_GIVER, FIRST_ROUND_GIVER + MOST_PEOPLE - 1);
        if (!ofGiver && !within(what, 0, 1)) return OUTSIDE;
        circle.find(world);
        if (what == 0) return circle.isThere() ? 1 : 0;
        if (what == 1) return circle.likingTogether();
        return circle.to[what - FIRST_ROUND_GIVER];
    }

    public int stranger(int a, int b, int what) {
        if (!isPerson(a) || !isPerson(b)) return UNKNOWN;
        if (!within(what, 0, STRANGER_QUESTIONS - 1)) return OUTSIDE;
        return what == 0 ? world.handsBetween(a, b) : world.firstBetween(a, b);
    }

    public int drawn(int years, int seed, int what) {
        if (!within(years, 1, MOST_YEARS)) return OUTSIDE;
        if (seed < 0 || !within(what, 0, DRAWN_QUESTIONS - 1)) return OUTSIDE;
        trial.copyFrom(world);
        draws.seed = seed;
        int given = 0;
        for (int y = 0; y < years; y++) given += trial.passYear(law, draws);
        switch (what) {
            case 0: return given;
            case 1: return trial.living();
            case 2: return trial.allFeasts() - world.allFeasts();
            default: return (int) draws.seed;
        }
    }

    // ---- the book

    public int open(int person, int years) {
        if (!isPerson(person)) return UNKNOWN;
        if (!within(years, 1, MOST_BOOK_YEARS)) return OUTSIDE;
        book.begin(person, years);
        return world.people;
    }

    public int write(int year, int v) {
        if (!book.isOpen()) return STATE;
        if (!book.hasYear(year)) return UNKNOWN;
        if (v != NONE && !isPerson(v)) return UNKNOWN;
        int was = book.written[year];
        book.written[year] = v;
        return was;
    }

    public int filled() {
        if (!book.isOpen()) return STATE;
        return book.fillings(world, walks);
    }

    public int sure(int year) {
        if (!book.isOpen()) return STATE;
        if (!book.hasYear(year)) return UNKNOWN;
        return book.onlyOneIn(year, world, walks);
    }

    // ---- what is told of all

    public int image() {
        kept.copyFrom(world);
        hasImage = true;
        return world.gifts;
    }

    public int restore() {
        if (!hasImage || kept.people != world.people) return STATE;
        world.copyFrom(kept);
        return world.gifts;
    }

    public int count(int what) {
        if (!within(what, 0, COUNT_QUESTIONS - 1)) return OUTSIDE;
        switch (what) {
            case 0: return world.people;
            case 1: return world.gifts;
            case 2: return world.living();
            case 3: return world.yearsGone;
            case 4: return world.allFeasts();
            case 5: return page.size;
            default: return lawsRead;
        }
    }

    public long digest() {
        long h = 607;
        for (int what = 0; what < LAW_QUESTIONS; what++) h = mixed(h, lawTold(what));
        for (int p = 0; p < world.people; p++) h = withPerson(h, p);
        for (int g = 0; g < world.gifts; g++) h = withGift(h, g);
        h = mixed(h, traps());
        h = mixed(h, round(0));
        h = mixed(h, round(1));
        if (book.isOpen()) h = mixed(h, filled());
        for (int i = 0; i < page.size && i < MOST_LETTERS; i++) h = mixed(h, page.letter[i]);
        for (int what = 0; what < COUNT_QUESTIONS; what++) h = mixed(h, count(what));
        return h;
    }

    private long withPerson(long h, int person) {
        long with = h;
        for (int what = 0; what < PERSON_QUESTIONS; what++) with = mixed(with, about(person, what));
        return mixed(with, rest(person));
    }

    private long withGift(long h, int gift) {
        long with = h;
        for (int what = 0; what < GIFT_QUESTIONS; what++) with = mixed(with, told(gift, what));
        if (!world.row[gift].lives()) return with;
        with = mixed(with, may(gift));
        return mixed(with, soonest(gift));
    }

    private boolean isPerson(int n) {
        return n >= 0 && n < world.people;
    }

    private boolean areTwo(int a, int b) {
        return isPerson(a) && isPerson(b) && a != b;
    }

    private boolean isGift(int n) {
        return n >= 0 && n < world.gifts;
    }

    private int whoMayHave(int gift) {
        Gift one = world.row[gift];
        return world.mayHave(one.from, one.holder, law.back);
    }

    private static long mixed(long h, long it) {
        return 31 * h + it;
    }

    private static boolean within(int n, int least, int greatest) {
        return n >= least && n <= greatest;
    }

    private static int pair(int a, int b) {
        return a * MOST_PEOPLE + b;
    }

    private static int bit(int person) {
        return person == NONE ? 0 : 1 << person;
    }

    private static long greatestCommon(long a, long b) {
        long greater = a;
        long less = b;
        // Euclid's rests fall by half in two steps: a hundred are more than any two longs need.
        for (int i = 0; i < 100 && less != 0; i++) {
            long over = greater % less;
            greater = less;
            less = over;
        }
        return greater;
    }

    /** The letters that came and were not read yet. */
    private static final class Page {
        // How far in a law the letters ahead have come.
        private static final int BEGUN = 0, NEEDS_KEEP = 1, HAS_KEEP = 2, HAS_BACK = 3;
        private static final int HAS_ONE = 4, NEEDS_MOST = 5, WHOLE = 6;

        final int[] letter = new int[MOST_LETTERS];
        int size;

        /** How many letters w brings; NONE if they are not as told. */
        static int lettersIn(long w) {
            int coming = 0;
            boolean ended = false;
            for (int i = 0; i < BYTES; i++) {
                int code = byteOf(w, i);
                if (code > GREATEST_LETTER || (ended && code != 0)) return NONE;
                if (code == 0) ended = true;
                else coming++;
            }
            return coming;
        }

        private static int byteOf(long w, int place) {
            return (int) ((w >>> (8 * place)) & 255);
        }

        void append(long w, int coming) {
            for (int i = 0; i < coming && size < MOST_LETTERS; i++) {
                letter[size] = byteOf(w, i);
                size++;
            }
        }

        int firstFault() {
            int place = BEGUN;
            for (int i = 0; i < size && i < MOST_LETTERS; i++) {
                place = behind(place, letter[i]);
                if (place == NONE) return i;
            }
            return size;
        }

        boolean isLaw() {
            int place = BEGUN;
            for (int i = 0; i < size && i < MOST_LETTERS && place != NONE; i++) {
                place = behind(place, letter[i]);
            }
            return place != NONE && place != NEEDS_KEEP && place != NEEDS_MOST;
        }

        private static int behind(int place, int code) {
            if (place == NEEDS_KEEP) return within(code, '1', '3') ? HAS_KEEP : NONE;
            if (place == NEEDS_MOST) return within(code, '1', '9') ? WHOLE : NONE;
            if (code == 'k' && place == BEGUN) return NEEDS_KEEP;
            if (code == 'b' && place < HAS_BACK) return HAS_BACK;
            if (code == 'o' && place < HAS_ONE) return HAS_ONE;
            if (code == 'w' && place < NEEDS_MOST) return NEEDS_MOST;
            return NONE;
        }
    }

    private static final class Law {
        private static final int UNTOLD_KEEP = 1, UNTOLD_MOST = 3;

        int keep = UNTOLD_KEEP;
        boolean back;
        boolean one;
        int most = UNTOLD_MOST;

        /** The page has to be a law. */
        void readFrom(Page page) {
            keep = UNTOLD_KEEP;
            back = false;
            one = false;
            most = UNTOLD_MOST;
            int ahead = 0;
            for (int i = 0; i < page.size && i < MOST_LETTERS; i++) {
                int code = page.letter[i];
                if (ahead == 'k') keep = code - '0';
                else if (ahead == 'w') most = code - '0';
                else if (code == 'b') back = true;
                else if (code == 'o') one = true;
                ahead = code;
            }
        }
    }

    private static final class Gift {
        int kind;
        int home;
        int holder;
        int from;
        int wear;
        int age;
        int fate;
        int hands;

        void begin(int newKind, int person) {
            kind = newKind;
            home = person;
            holder = person;
            from = NONE;
            wear = 0;
            age = 0;
            fate = LIVES;
            hands = 0;
        }

        void copyFrom(Gift other) {
            kind = other.kind;
            home = other.home;
            holder = other.holder;
            from = other.from;
            wear = other.wear;
            age = other.age;
            fate = other.fate;
            hands = other.hands;
        }

        boolean lives() {
            return fate == LIVES;
        }

        boolean isOf(int ofKind) {
            return ofKind == PLAIN || ofKind == kind || (ofKind == CUP && kind == SPOON);
        }

        int worth() {
            int worn = Math.max(1, FULL_WORTH - wear);
            return kind == TALE ? worn + Math.min(hands, MOST_TALE_WORTH) : worn;
        }

        boolean mustGo(int keep) {
            return lives() && age >= (kind == HOUSE ? keep + 1 : keep);
        }

        void moveTo(int person, int most) {
            from = holder;
            holder = person;
            age = 0;
            hands++;
            if (kind == SPOON) wear += 2;
            else if (kind != TALE) wear++;
            if (isOf(CUP) && wear >= most) fate = BROKE;
            else if (holder == home) fate = DIED_HOME;
        }
    }

    /** Draws by a seed, each from the one ahead. */
    private static final class Draws {
        long seed;

        /** One of those in the bits; there has to be one. */
        int oneOf(int bits) {
            int many = Integer.bitCount(bits);
            if (many == 0) return NONE;
            seed = (1103515245L * seed + 12345L) & 0x7fffffffL;
            int left = (int) ((seed / 65536) % many);
            for (int p = 0; p < MOST_PEOPLE; p++) {
                if ((bits & bit(p)) == 0) continue;
                if (left == 0) return p;
                left--;
            }
            return NONE;
        }
    }

    /** All that an image keeps, and who the people are. */
    private static final class World {
        int people;
        final int[] habit = new int[MOST_PEOPLE];
        final int[] known = new int[MOST_PEOPLE];
        final int[] feasts = new int[MOST_PEOPLE];
        final int[] liking = new int[PAIRS];
        final int[] owed = new int[PAIRS];
        int gifts;
        final Gift[] row = new Gift[MOST_GIFTS];
        int yearsGone;

        World() {
            for (int g = 0; g < MOST_GIFTS; g++) row[g] = new Gift();
        }

        void copyFrom(World other) {
            people = other.people;
            System.arraycopy(other.habit, 0, habit, 0, MOST_PEOPLE);
            System.arraycopy(other.known, 0, known, 0, MOST_PEOPLE);
            System.arraycopy(other.feasts, 0, feasts, 0, MOST_PEOPLE);
            System.arraycopy(other.liking, 0, liking, 0, PAIRS);
            System.arraycopy(other.owed, 0, owed, 0, PAIRS);
            gifts = other.gifts;
            for (int g = 0; g < MOST_GIFTS; g++) row[g].copyFrom(other.row[g]);
            yearsGone = other.yearsGone;
        }

        int addPerson(int newHabit) {
            habit[people] = newHabit;
            people++;
            return people - 1;
        }

        int addGift(int kind, int person) {
            row[gifts].begin(kind, person);
            gifts++;
            return gifts - 1;
        }

        boolean knows(int a, int b) {
            return (known[a] & bit(b)) != 0;
        }

        void setKnown(int a, int b, boolean is) {
            known[a] = is ? known[a] | bit(b) : known[a] & ~bit(b);
            known[b] = is ? known[b] | bit(a) : known[b] & ~bit(a);
        }

        int heldBy(int person) {
            int held = 0;
            for (int g = 0; g < gifts; g++) {
                if (row[g].lives() && row[g].holder == person) held++;
            }
            return held;
        }

        int living() {
            int live = 0;
            for (int g = 0; g < gifts; g++) {
                if (row[g].lives()) live++;
            }
            return live;
        }

        int allFeasts() {
            int all = 0;
            for (int p = 0; p < people; p++) all += feasts[p];
            return all;
        }

        int balance(int person) {
            int left = 0;
            for (int p = 0; p < people; p++) left += owed[pair(p, person)] - owed[pair(person, p)];
            return left;
        }

        int mayHave(int from, int holder, boolean back) {
            int others = known[holder] & ~bit(from);
            if (others != 0 || !back) return others;
            return known[holder] & bit(from);
        }

        void handOn(Gift gift, int person, int most) {
            owed[pair(person, gift.holder)] += gift.worth();
            gift.moveTo(person, most);
            if (gift.fate == DIED_HOME) feasts[person]++;
        }

        /** How many gifts were given; without draws each holder gives by habit. */
        int passYear(Law law, Draws draws) {
            yearsGone++;
            for (int g = 0; g < gifts; g++) {
                if (row[g].lives()) row[g].age++;
            }
            int given = 0;
            int gave = 0;
            for (int g = 0; g < gifts; g++) {
                int giver = row[g].holder;
                if (!row[g].mustGo(law.keep)) continue;
                if (law.one && (gave & bit(giver)) != 0) continue;
                int who = mayHave(row[g].from, giver, law.back);
                if (who == 0) continue;
                int to = draws == null ? chosenBy(giver, who) : draws.oneOf(who);
                if (to == NONE) continue;
                handOn(row[g], to, law.most);
                gave |= bit(giver);
                given++;
            }
            return given;
        }

        private int chosenBy(int giver, int who) {
            int chosen = NONE;
            int highest = 0;
            for (int p = 0; p < people; p++) {
                if ((who & bit(p)) == 0) continue;
                int mark = markOf(giver, p);
                // Only a higher mark takes it over: of like ones it stays with the least.
                if (chosen == NONE || mark > highest) {
                    chosen = p;
                    highest = mark;
                }
            }
            return chosen;
        }

        private int markOf(int giver, int person) {
            switch (habit[giver]) {
                case TO_LEAST: return -person;
                case TO_GREATEST: return person;
                case TO_LIKED: return liking[pair(giver, person)];
                default: return -heldBy(person);
            }
        }

        int handsBetween(int a, int b) {
            int reached = bit(a);
            for (int hands = 0; hands < MOST_PEOPLE; hands++) {
                if ((reached & bit(b)) != 0) return hands;
                reached |= knownByAny(reached);
            }
            return NONE;
        }

        private int knownByAny(int bits) {
            int all = 0;
            for (int p = 0; p < people; p++) {
                if ((bits & bit(p)) != 0) all |= known[p];
            }
            return all;
        }

        int firstBetween(int a, int b) {
            int hands = handsBetween(a, b);
            if (hands == NONE || hands == 0) return NONE;
            for (int p = 0; p < people; p++) {
                if (knows(a, p) && handsBetween(p, b) == hands - 1) return p;
            }
            return NONE;
        }
    }

    /** All ways of one gift at once: how much of them is with whom, by who gave it. */
    private static final class Walks {
        // One row more, the first, for a gift that nobody gave yet.
        private static final int SPOTS = (MOST_PEOPLE + 1) * MOST_PEOPLE;

        final long[] now = new long[SPOTS];
        final long[] next = new long[SPOTS];

        void begin(int from, int holder) {
            clear(now);
            now[spot(from, holder)] = 1;
        }

        /**
         * All go on for one year; those that come home are told, and end.
         * Shared, what stood for one stands for SHARES, in like parts to all who may have it.
         */
        long goOn(World world, boolean back, int home, boolean shared) {
            clear(next);
            long cameHome = 0;
            for (int from = NONE; from < world.people; from++) {
                for (int holder = 0; holder < world.people; holder++) {
                    long weight = now[spot(from, holder)];
                    int who = weight == 0 ? 0 : world.mayHave(from, holder, back);
                    if (who == 0) continue;
                    long part = shared ? weight * (SHARES / Integer.bitCount(who)) : weight;
                    if ((who & bit(home)) != 0) cameHome += part;
                    spread(part, holder, who & ~bit(home));
                }
            }
            System.arraycopy(next, 0, now, 0, SPOTS);
            return cameHome;
        }

        private void spread(long part, int giver, int who) {
            for (int p = 0; p < MOST_PEOPLE; p++) {
                if ((who & bit(p)) != 0) next[spot(giver, p)] += part;
            }
        }

        void keepOnly(int holder) {
            for (int i = 0; i < SPOTS; i++) {
                if (i % MOST_PEOPLE != holder) now[i] = 0;
            }
        }

        long sum() {
            long all = 0;
            for (int i = 0; i < SPOTS; i++) all += now[i];
            return all;
        }

        private static int spot(int from, int holder) {
            return (from + 1) * MOST_PEOPLE + holder;
        }

        private static void clear(long[] weights) {
            for (int i = 0; i < weights.length; i++) weights[i] = 0;
        }
    }

    /** A round in which everybody gives one gift and everybody gets one. */
    private static final class Circle {
        private static final int SETS = 1 << MOST_PEOPLE;

        // By who gets something already, from as many givers: the most liking that the others can add.
        final int[] most = new int[SETS];
        final int[] to = new int[MOST_PEOPLE];

        void find(World world) {
            int all = (1 << world.people) - 1;
            most[all] = 0;
            for (int got = all - 1; got >= 0; got--) most[got] = mostBehind(world, got);
            int got = 0;
            for (int giver = 0; giver < MOST_PEOPLE; giver++) {
                to[giver] = giver < world.people ? firstOfMost(world, got) : NONE;
                got |= bit(to[giver]);
            }
        }

        private int mostBehind(World world, int got) {
            int highest = NONE;
            for (int p = 0; p < world.people; p++) highest = Math.max(highest, mostBy(world, got, p));
            return highest;
        }

        private int firstOfMost(World world, int got) {
            if (!isThere()) return NONE;
            for (int p = 0; p < world.people; p++) {
                int with = mostBy(world, got, p);
                if (with != NONE && with == most[got]) return p;
            }
            return NONE;
        }

        /** The most liking if the next giver gives to this one; NONE if that can't be. */
        private int mostBy(World world, int got, int person) {
            int giver = Integer.bitCount(got);
            if ((got & bit(person)) != 0 || !world.knows(giver, person)) return NONE;
            int behind = most[got | bit(person)];
            return behind == NONE ? NONE : behind + world.liking[pair(giver, person)];
        }

        boolean isThere() {
            return most[0] != NONE;
        }

        int likingTogether() {
            return most[0];
        }
    }

    /** What the clerk wrote of one gift, year by year. */
    private static final class Book {
        final int[] written = new int[MOST_BOOK_YEARS + 1];
        int home;
        int length;

        boolean isOpen() {
            return length > 0;
        }

        boolean hasYear(int year) {
            return within(year, 1, length);
        }

        void begin(int person, int years) {
            home = person;
            length = years;
            for (int y = 0; y <= MOST_BOOK_YEARS; y++) written[y] = NONE;
        }

        int fillings(World world, Walks walks) {
            walks.begin(NONE, home);
            for (int y = 1; y <= length; y++) {
                walks.goOn(world, false, home, false);
                if (written[y] != NONE) walks.keepOnly(written[y]);
            }
            return (int) walks.sum();
        }

        int onlyOneIn(int year, World world, Walks walks) {
            int was = written[year];
            int only = NONE;
            int many = 0;
            for (int p = 0; p < world.people; p++) {
                if (was != NONE && was != p) continue;
                // Whoever can stand there has a way of his own when he is written in.
                written[year] = p;
                if (fillings(world, walks) > 0) {
                    only = p;
                    many++;
                }
            }
            written[year] = was;
            return many == 1 ? only : NONE;
        }
    }
}
