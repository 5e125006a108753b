import java.math.BigInteger;
import java.util.ArrayList;
import java.util.List;
import java.util.TreeSet;
import java.util.function.Consumer;

/**
 * The document once more, as slow and plain as it can be said: everything is listed one by one.
 * It holds nothing of the class that it is measured against.
 */
final class Model {
    static final int NONE = -1, UNKNOWN = -101, OUTSIDE = -102, STATE = -103, FULL = -104;

    private static final class Thing {
        int kind, home, holder, from = NONE, wear, kept, fate, hands;

        Thing copy() {
            Thing t = new Thing();
            t.kind = kind;
            t.home = home;
            t.holder = holder;
            t.from = from;
            t.wear = wear;
            t.kept = kept;
            t.fate = fate;
            t.hands = hands;
            return t;
        }

        boolean cup() {
            return kind == 1 || kind == 4;
        }

        int worth() {
            int w = 10 - wear;
            if (w < 1) w = 1;
            if (kind == 2) w += hands > 9 ? 9 : hands;
            return w;
        }
    }

    private static final class State {
        List<Thing> things = new ArrayList<>();
        boolean[][] knows = new boolean[8][8];
        int[][] likes = new int[8][8];
        int[][] owes = new int[8][8];
        int[] feasts = new int[8];
        int years;

        State copy() {
            State s = new State();
            for (Thing t : things) s.things.add(t.copy());
            for (int i = 0; i < 8; i++) {
                s.knows[i] = knows[i].clone();
                s.likes[i] = likes[i].clone();
                s.owes[i] = owes[i].clone();
            }
            s.feasts = feasts.clone();
            s.years = years;
            return s;
        }
    }

    private static final List<String> LAWS = allLaws();

    private final List<Integer> habits = new ArrayList<>();
    private State state = new State();
    private State image;
    private int imagePeople;
    private String page = "";
    private String law = "";
    private int reads;
    private int[] book;
    private int bookHome;
    private long seed;

    private static List<String> allLaws() {
        List<String> all = new ArrayList<>();
        for (String k : new String[] {"", "k1", "k2", "k3"}) {
            for (String b : new String[] {"", "b"}) {
                for (String o : new String[] {"", "o"}) {
                    all.add(k + b + o);
                    for (int w = 1; w <= 9; w++) all.add(k + b + o + "w" + w);
                }
            }
        }
        return all;
    }

    private static boolean in(int n, int least, int most) {
        return least <= n && n <= most;
    }

    private boolean noPerson(int n) {
        return !in(n, 0, habits.size() - 1);
    }

    private boolean noTwo(int a, int b) {
        return noPerson(a) || noPerson(b) || a == b;
    }

    private boolean noThing(int n) {
        return !in(n, 0, state.things.size() - 1);
    }

    int letters(long w) {
        String text = "";
        long left = w;
        for (int i = 0; i < 8; i++, left >>>= 8) text += (char) (left & 255);
        int end = text.indexOf((char) 0);
        if (end >= 0) {
            for (char c : text.substring(end).toCharArray()) if (c != 0) return OUTSIDE;
            text = text.substring(0, end);
        }
        for (char c : text.toCharArray()) if (c > 126) return OUTSIDE;
        if (page.length() + text.length() > 16) return FULL;
        page += text;
        return page.length();
    }

    int blank() {
        int had = page.length();
        page = "";
        return had;
    }

    int fault() {
        for (int i = 0; i < page.length(); i++) {
            boolean any = false;
            for (String l : LAWS) any |= l.startsWith(page.substring(0, i + 1));
            if (!any) return i;
        }
        return page.length();
    }

    int law() {
        if (!LAWS.contains(page)) return STATE;
        law = page;
        page = "";
        return ++reads;
    }

    private int behind(char sign, int untold) {
        int at = law.indexOf(sign);
        return at < 0 ? untold : law.charAt(at + 1) - '0';
    }

    int lawTold(int what) {
        if (!in(what, 0, 3)) return OUTSIDE;
        return new int[] {behind('k', 1), law.contains("b") ? 1 : 0, law.contains("o") ? 1 : 0, behind('w', 3)}[what];
    }

    int person(int habit) {
        if (!in(habit, 0, 3)) return OUTSIDE;
        if (habits.size() == 8) return FULL;
        habits.add(habit);
        return habits.size() - 1;
    }

    int know(int a, int b, boolean is) {
        if (noTwo(a, b)) return UNKNOWN;
        int did = state.knows[a][b] ? 1 : 0;
        state.knows[a][b] = is;
        state.knows[b][a] = is;
        return did;
    }

    int like(int a, int b, int v) {
        if (noTwo(a, b)) return UNKNOWN;
        if (!in(v, 0, 9)) return OUTSIDE;
        int was = state.likes[a][b];
        state.likes[a][b] = v;
        return was;
    }

    private static int held(State s, int person) {
        int n = 0;
        for (Thing t : s.things) if (t.fate == 0 && t.holder == person) n++;
        return n;
    }

    private static int bits(Iterable<Integer> people) {
        int bits = 0;
        for (int p : people) bits += 1 << p;
        return bits;
    }

    private TreeSet<Integer> friends(int person) {
        TreeSet<Integer> all = new TreeSet<>();
        for (int p = 0; p < habits.size(); p++) if (state.knows[person][p]) all.add(p);
        return all;
    }

    int about(int person, int what) {
        if (noPerson(person)) return UNKNOWN;
        if (!in(what, 0, 3)) return OUTSIDE;
        if (what == 0) return habits.get(person);
        if (what == 1) return held(state, person);
        return what == 2 ? bits(friends(person)) : state.feasts[person];
    }

    int owes(int a, int b) {
        return noTwo(a, b) ? UNKNOWN : state.owes[a][b];
    }

    int rest(int person) {
        if (noPerson(person)) return -100001;
        int sum = 0;
        for (int p = 0; p < 8; p++) sum += state.owes[p][person];
        for (int p = 0; p < 8; p++) sum -= state.owes[person][p];
        return sum;
    }

    int gift(int kind, int person) {
        if (!in(kind, 0, 4)) return OUTSIDE;
        if (noPerson(person)) return UNKNOWN;
        if (state.things.size() == 8) return FULL;
        Thing t = new Thing();
        t.kind = kind;
        t.home = person;
        t.holder = person;
        state.things.add(t);
        return state.things.size() - 1;
    }

    int told(int gift, int what) {
        if (noThing(gift)) return UNKNOWN;
        if (!in(what, 0, 8)) return OUTSIDE;
        Thing t = state.things.get(gift);
        return new int[] {t.kind, t.home, t.holder, t.from, t.wear, t.kept, t.worth(), t.fate, t.hands}[what];
    }

    int as(int gift, int kind) {
        if (noThing(gift)) return UNKNOWN;
        if (!in(kind, 0, 4)) return OUTSIDE;
        int is = state.things.get(gift).kind;
        return kind == 0 || kind == is || (kind == 1 && is == 4) ? gift : NONE;
    }

    private TreeSet<Integer> mayHave(int from, int holder) {
        TreeSet<Integer> who = friends(holder);
        boolean knowsFrom = who.remove(from);
        if (who.isEmpty() && knowsFrom && law.contains("b")) who.add(from);
        return who;
    }

    private boolean dead(int gift) {
        return state.things.get(gift).fate != 0;
    }

    int may(int gift) {
        if (noThing(gift)) return UNKNOWN;
        if (dead(gift)) return STATE;
        Thing t = state.things.get(gift);
        return bits(mayHave(t.from, t.holder));
    }

    private void pass(State s, Thing t, int to) {
        s.owes[to][t.holder] += t.worth();
        t.from = t.holder;
        t.holder = to;
        t.kept = 0;
        t.hands++;
        t.wear += new int[] {1, 1, 0, 1, 2}[t.kind];
        if (t.cup() && t.wear >= lawTold(3)) {
            t.fate = 2;
        } else if (to == t.home) {
            t.fate = 1;
            s.feasts[to]++;
        }
    }

    int give(int gift, int person) {
        if (noThing(gift) || noPerson(person)) return UNKNOWN;
        if (dead(gift) || (may(gift) >> person) % 2 == 0) return STATE;
        pass(state, state.things.get(gift), person);
        return state.things.get(gift).fate;
    }

    private int choose(State s, int giver, TreeSet<Integer> who) {
        int habit = habits.get(giver);
        if (habit == 0) return who.first();
        if (habit == 1) return who.last();
        int best = who.first();
        for (int p : who) {
            if (habit == 2 && s.likes[giver][p] > s.likes[giver][best]) best = p;
            if (habit == 3 && held(s, p) < held(s, best)) best = p;
        }
        return best;
    }

    private int draw(TreeSet<Integer> who) {
        BigInteger next = BigInteger.valueOf(1103515245).multiply(BigInteger.valueOf(seed)).add(BigInteger.valueOf(12345));
        seed = next.mod(BigInteger.TWO.pow(31)).longValue();
        return new ArrayList<>(who).get((int) (seed / 65536 % who.size()));
    }

    private int year(State s, boolean drawn) {
        s.years++;
        for (Thing t : s.things) if (t.fate == 0) t.kept++;
        TreeSet<Integer> gave = new TreeSet<>();
        int given = 0;
        for (Thing t : s.things) {
            int may = lawTold(0) + (t.kind == 3 ? 1 : 0);
            if (t.fate != 0 || t.kept < may) continue;
            if (law.contains("o") && gave.contains(t.holder)) continue;
            TreeSet<Integer> who = mayHave(t.from, t.holder);
            if (who.isEmpty()) continue;
            gave.add(t.holder);
            pass(s, t, drawn ? draw(who) : choose(s, t.holder, who));
            given++;
        }
        return given;
    }

    int years(int years) {
        if (!in(years, 1, 30)) return OUTSIDE;
        int given = 0;
        for (int y = 0; y < years; y++) given += year(state, false);
        return given;
    }

    private int homeIn(int from, int holder, int home, int years) {
        int n = 0;
        for (int p : mayHave(from, holder)) {
            if (years == 1) n += p == home ? 1 : 0;
            else if (p != home) n += homeIn(holder, p, home, years - 1);
        }
        return n;
    }

    int ways(int gift, int years) {
        if (noThing(gift)) return UNKNOWN;
        if (dead(gift)) return STATE;
        if (!in(years, 1, 8)) return OUTSIDE;
        Thing t = state.things.get(gift);
        return homeIn(t.from, t.holder, t.home, years);
    }

    int soonest(int gift) {
        if (noThing(gift)) return UNKNOWN;
        if (dead(gift)) return STATE;
        for (int n = 1; n <= 8; n++) if (ways(gift, n) > 0) return n;
        return NONE;
    }

    /** Above and below, not yet in lowest terms. */
    private BigInteger[] chance(int from, int holder, int home, int years) {
        BigInteger[] sum = {BigInteger.ZERO, BigInteger.ONE};
        TreeSet<Integer> who = mayHave(from, holder);
        if (years == 0 || who.isEmpty()) return sum;
        for (int p : who) {
            BigInteger[] one = p == home ? new BigInteger[] {BigInteger.ONE, BigInteger.ONE} : chance(holder, p, home, years - 1);
            sum[0] = sum[0].multiply(one[1]).add(one[0].multiply(sum[1]));
            sum[1] = sum[1].multiply(one[1]);
            BigInteger common = sum[0].gcd(sum[1]);
            sum[0] = sum[0].divide(common);
            sum[1] = sum[1].divide(common);
        }
        sum[1] = sum[1].multiply(BigInteger.valueOf(who.size()));
        return sum;
    }

    long likely(int gift, int years, int part) {
        if (noThing(gift)) return UNKNOWN;
        if (dead(gift)) return STATE;
        if (!in(years, 1, 7) || !in(part, 0, 1)) return OUTSIDE;
        Thing t = state.things.get(gift);
        BigInteger[] c = chance(t.from, t.holder, t.home, years);
        return c[part].divide(c[0].gcd(c[1])).longValueExact();
    }

    int traps() {
        TreeSet<Integer> caught = new TreeSet<>();
        for (int p = 0; p < habits.size(); p++) {
            boolean always = true;
            for (int giver : friends(p)) {
                TreeSet<Integer> on = friends(p);
                on.remove(giver);
                always &= on.isEmpty();
            }
            if (always && !friends(p).isEmpty()) caught.add(p);
        }
        return bits(caught);
    }

    private void rounds(int[] to, int giver, Consumer<int[]> each) {
        if (giver == habits.size()) {
            each.accept(to);
            return;
        }
        for (int p : friends(giver)) {
            boolean has = false;
            for (int g = 0; g < giver; g++) has |= to[g] == p;
            if (has) continue;
            to[giver] = p;
            rounds(to, giver + 1, each);
        }
    }

    int round(int what) {
        if (!in(what, 0, 1) && !in(what, 10, 17)) return OUTSIDE;
        int[][] best = {null};
        int[] most = {NONE};
        rounds(new int[habits.size()], 0, to -> {
            int sum = 0;
            for (int g = 0; g < to.length; g++) sum += state.likes[g][to[g]];
            if (sum > most[0]) {
                most[0] = sum;
                best[0] = to.clone();
            }
        });
        if (what == 0) return best[0] == null ? 0 : 1;
        if (what == 1) return most[0];
        return best[0] == null || what - 10 >= best[0].length ? NONE : best[0][what - 10];
    }

    int stranger(int a, int b, int what) {
        if (noPerson(a) || noPerson(b)) return UNKNOWN;
        if (!in(what, 0, 1)) return OUTSIDE;
        int n = habits.size();
        int[][] far = new int[n][n];
        for (int i = 0; i < n; i++) {
            for (int j = 0; j < n; j++) far[i][j] = i == j ? 0 : state.knows[i][j] ? 1 : 1000;
        }
        for (int k = 0; k < n; k++) {
            for (int i = 0; i < n; i++) {
                for (int j = 0; j < n; j++) far[i][j] = Math.min(far[i][j], far[i][k] + far[k][j]);
            }
        }
        if (far[a][b] >= 1000) return NONE;
        if (what == 0) return far[a][b];
        for (int p : friends(a)) if (far[p][b] + 1 == far[a][b]) return p;
        return NONE;
    }

    private static int feasts(State s) {
        int n = 0;
        for (int f : s.feasts) n += f;
        return n;
    }

    private static int alive(State s) {
        int n = 0;
        for (Thing t : s.things) if (t.fate == 0) n++;
        return n;
    }

    int drawn(int years, int first, int what) {
        if (!in(years, 1, 30) || first < 0 || !in(what, 0, 3)) return OUTSIDE;
        State s = state.copy();
        seed = first;
        int given = 0;
        for (int y = 0; y < years; y++) given += year(s, true);
        return new int[] {given, alive(s), feasts(s) - feasts(state), (int) seed}[what];
    }

    int open(int person, int years) {
        if (noPerson(person)) return UNKNOWN;
        if (!in(years, 1, 7)) return OUTSIDE;
        book = new int[years];
        java.util.Arrays.fill(book, NONE);
        bookHome = person;
        return habits.size();
    }

    int write(int year, int v) {
        if (book == null) return STATE;
        if (!in(year, 1, book.length) || (v != NONE && noPerson(v))) return UNKNOWN;
        int was = book[year - 1];
        book[year - 1] = v;
        return was;
    }

    private void fill(int[] had, int year, Consumer<int[]> each) {
        if (year == book.length) {
            each.accept(had);
            return;
        }
        int holder = year == 0 ? bookHome : had[year - 1];
        int from = year == 0 ? NONE : year == 1 ? bookHome : had[year - 2];
        for (int p = 0; p < habits.size(); p++) {
            if (!state.knows[holder][p] || p == from || p == bookHome) continue;
            if (book[year] != NONE && book[year] != p) continue;
            had[year] = p;
            fill(had, year + 1, each);
        }
    }

    int filled() {
        if (book == null) return STATE;
        int[] n = {0};
        fill(new int[book.length], 0, had -> n[0]++);
        return n[0];
    }

    int sure(int year) {
        if (book == null) return STATE;
        if (!in(year, 1, book.length)) return UNKNOWN;
        TreeSet<Integer> seen = new TreeSet<>();
        fill(new int[book.length], 0, had -> seen.add(had[year - 1]));
        return seen.size() == 1 ? seen.first() : NONE;
    }

    int image() {
        image = state.copy();
        imagePeople = habits.size();
        return state.things.size();
    }

    int restore() {
        if (image == null || imagePeople != habits.size()) return STATE;
        state = image.copy();
        return state.things.size();
    }

    int count(int what) {
        if (!in(what, 0, 6)) return OUTSIDE;
        return new int[] {habits.size(), state.things.size(), alive(state), state.years, feasts(state),
            page.length(), reads}[what];
    }

    long digest() {
        List<Long> all = new ArrayList<>();
        for (int what = 0; what <= 3; what++) all.add((long) lawTold(what));
        for (int p = 0; p < habits.size(); p++) {
            for (int what = 0; what <= 3; what++) all.add((long) about(p, what));
            all.add((long) rest(p));
        }
        for (int g = 0; g < state.things.size(); g++) {
            for (int what = 0; what <= 8; what++) all.add((long) told(g, what));
            if (dead(g)) continue;
            all.add((long) may(g));
            all.add((long) soonest(g));
        }
        all.add((long) traps());
        all.add((long) round(0));
        all.add((long) round(1));
        if (book != null) all.add((long) filled());
        for (char c : page.toCharArray()) all.add((long) c);
        for (int what = 0; what <= 6; what++) all.add((long) count(what));
        long h = 607;
        for (long it : all) h = 31 * h + it;
        return h;
    }
}
