/** What the tests share: it prints each answer that is not the one that is due, and counts them. */
final class Due {
    static final int MISSING = 1;
    static final int BEYOND = 2;
    static final int NEGATIVE = 3;
    static final int KIND = 4;
    static final int FULL = 5;
    static final int ALIKE = 6;

    private final String test;
    private int asked;
    private int wrong;
    private int promise;
    WordSchool x = new WordSchool();

    Due(String test) {
        this.test = test;
    }

    /** Begins with a new object; what follows tests that promise. */
    WordSchool promise(int number) {
        promise = number;
        x = new WordSchool();
        return x;
    }

    void is(String call, long got, long want) {
        asked++;
        if (got != want) {
            wrong++;
            System.out.println(test + ", promise " + promise + ": " + call + " answered " + got + ", due is " + want);
        }
    }

    /** An ACT that is done: its answer, and status() is 0. */
    void done(String call, long got, long want) {
        is(call, got, want);
        is("status() behind " + call, x.status(), 0);
    }

    /** An ACT that is refused: it answers NONE, and status() is the finding. */
    void refused(String call, long got, int finding) {
        is(call, got, WordSchool.NONE);
        is("status() behind " + call, x.status(), finding);
    }

    /** Lays a machine from texts: a text a STATE, its ANSWER, then its TAKES by SIGN ('-' MISSING). */
    void lay(int p, int kind, int k, String... states) {
        done("machine(" + p + ", ..)", x.machine(p, kind, states.length, k), states.length);
        for (int s = 0; s < states.length; s++) {
            done("say", x.say(p, s, digit(states[s], 0)), 0);
            for (int a = 0; a + 1 < states[s].length(); a++) {
                done("take", x.take(p, s, a, digit(states[s], a + 1)), 0);
            }
        }
    }

    private static int digit(String text, int i) {
        return text.charAt(i) == '-' ? -1 : Character.digit(text.charAt(i), 36);
    }

    /** The whole of a machine against texts as in lay; '.' is a TAKE that is not there. */
    void machine(int p, int kind, int k, String... states) {
        is("kind(" + p + ")", x.kind(p), kind);
        is("size(" + p + ", 0)", x.size(p, 0), states.length);
        is("size(" + p + ", 1)", x.size(p, 1), k);
        for (int s = 0; s < states.length; s++) {
            is("says(" + p + ", " + s + ")", x.says(p, s), digit(states[s], 0));
            for (int a = 0; a < k; a++) {
                boolean there = a + 1 < states[s].length() && states[s].charAt(a + 1) != '.';
                is("leads(" + p + ", " + s + ", " + a + ")", x.leads(p, s, a), there ? digit(states[s], a + 1) : -2);
            }
            is("leads(" + p + ", " + s + ", k)", x.leads(p, s, k), -2);
        }
        is("says(" + p + ", n)", x.says(p, states.length), -1);
    }

    /** The number of a word, from its SIGNS as a text. */
    static long w(String signs) {
        long number = 1;
        for (int i = 0; i < signs.length(); i++) {
            number = 4 * number + signs.charAt(i) - '0';
        }
        return number;
    }

    void end() {
        System.out.println(test + ": " + (wrong == 0 ? "all " + asked + " answers are as due" : wrong + " of " + asked + " answers are not as due"));
        if (wrong != 0) {
            System.exit(1);
        }
    }
}
