/** Counts and prints the answers that are not as due. */
final class Check {
    private final String name;
    private int wrong;

    Check(String name) {
        this.name = name;
    }

    void due(String call, long got, long want) {
        if (got == want) return;
        wrong++;
        System.out.println(name + ": " + call + " answered " + got + ", due is " + want);
    }

    /** Ends the program with exit code 1 if an answer was wrong. */
    void end() {
        if (wrong != 0) System.exit(1);
    }

    /** A text of up to eight letters as letters() takes it. */
    static long packed(String text) {
        long w = 0;
        for (int i = 0; i < text.length(); i++) w |= (long) text.charAt(i) << (8 * i);
        return w;
    }

    static GivenGoesOn withLaw(String text) {
        GivenGoesOn x = new GivenGoesOn();
        x.letters(packed(text));
        x.law();
        return x;
    }

    /** People of these habits, who know nobody. */
    static GivenGoesOn people(GivenGoesOn x, int... habits) {
        for (int habit : habits) x.person(habit);
        return x;
    }

    /** Each pair of numbers that follow each other comes to know each other. */
    static GivenGoesOn chain(GivenGoesOn x, int... path) {
        for (int i = 0; i + 1 < path.length; i++) x.know(path[i], path[i + 1], true);
        return x;
    }
}
