/** The boundary cases of promises 40 to 42: FAILURES, and status(). */
public final class EdgesFailureTest extends Edges {
    private static final String[] NUMBERS = {"0", "1", "-1", "16", "MIN", "MAX"};

    // ---- promise 40: blame

    @Says("ACT: a FAILURE with a number n is kept at p, besides what lies there, in place of one that was kept. Answers 0.")
    void p40_blame_kept() {
        begin(HOUSE);
        for (int p : new int[] {0, 1, 4, 6, 7, 8, 15}) {
            for (String n : NUMBERS) {
                done(with("blame(%, %)", p, n), 0, with("raise(%) = %; status() = 0; raise(%) = -1; status() = 1", p, n, p));
            }
        }
        done("blame(0, 9)", 0, "kind(0) = 0; size(0, 0) = 2; raise(15) = 0; raise(7) = -1; status() = 0");
        done("blame(8, 9)", 0, "kind(8) = -1; lift(8) = -1; status() = 1; raise(8) = 9");
        done("blame(6, 9)", 0, "kind(6) = 6; size(6, 1) = 2; lift(6) = 0; machine(6, 0, 1, 1) = 1; least(0, 6) = 2; raise(6) = 9");
    }

    @Says("PLACE p.")
    void p40_blame_place() {
        begin(HOUSE);
        placeRefused("blame(%, 1)");
        done("blame(0, 1)", 0);
        done("blame(15, 1)", 0);
    }

    // ---- promise 41: raise

    @Says("ACT: the FAILURE that is kept at p comes, and is gone then. Answers its number.")
    void p41_raise_comes() {
        begin(HOUSE);
        done("raise(0)", 7, "raise(0) = -1; status() = 1; raise(7) = -1; status() = 0; raise(15) = 0; status() = 0; kind(0) = 0; kind(15) = 0");
        done("raise(7)", -1, "raise(7) = -1; status() = 1; kind(7) = -1");
        done("raise(15)", 0, "raise(15) = -1; status() = 1; blame(15, 4) = 0; raise(15) = 4");
    }

    @Says("PLACE p")
    void p41_raise_place() {
        begin(HOUSE);
        placeRefused("raise(%)");
        done("raise(0)", 7);
        done("raise(15)", 0);
    }

    @Says("MISSING: none is kept.")
    void p41_raise_missing() {
        begin(HOUSE);
        for (int p = 0; p < 16; p++) {
            if (p != 0 && p != 7 && p != 15) {
                refused("raise(" + p + ")", MISSING);
            }
        }
        begin(HOUSE, "raise(0)");
        refused("raise(0)", MISSING);
    }

    // ---- promise 42: status

    @Says("ASK: the FINDING of the latest ACT, 0 ahead of any.")
    void p42_status_latestAct() {
        begin();
        answers("status() = 0; kind(16) = -1; status() = 0; answer(0, 0) = -1; status() = 0; told() = 0; status() = 0");
        begin(HOUSE);
        answers("lift(7) = -1; status() = 1; lift(16) = -1; status() = 2; machine(8, 0, -1, 1) = -1; status() = 3; draw(4, 1) = -1; status() = 4",
            "tell('') = -1; status() = 6; kind(0) = 0; kind(16) = -1; fits(7) = -2; status() = 6; status() = 6; unknow() = 3; status() = 0",
            "fewest(8) = -1; status() = 1; exam() = 4; status() = 0");
        begin(pairs(0, 15));
        answers("least(0, 0) = -1; status() = 5; lift(0) = 0; status() = 0");
    }

    /** Each ACT that is done makes status() 0, each ASK leaves it. */
    @Says({"ASK: the FINDING of the latest ACT", "One that is done answers what it says; status() is 0 then.", "ASKS change nothing, status() neither.",
        "The methods are ACTS and ASKS, as each one says."})
    void p42_status_actsAndAsks() {
        begin(HOUSE);
        String[] acts = {"machine(8, 0, 1, 1)", "row(2, 0, 1)", "cut(2, 0)", "take(0, 0, 0, 0)", "say(0, 0, 0)", "act(3, 0, 0, 0)", "copy(0, 0, 0, 1, 1)",
            "draw(0, 1)", "lift(0)", "least(0, 8)", "join(2, 0, 0, 8)", "teacher(8, 0, 0, 0)", "forget(6, '')", "learn(4)", "exam()", "tell('000')",
            "guess(8)", "know(4, '1')", "unknow()", "fewest(8)", "blame(0, 0)", "raise(0)"};
        for (String act : acts) {
            answers("lift(-1) = -1; status() = 2; " + act + " = " + started().call(act) + "; status() = 0");
        }
        String[] asks = {"kind(0)", "size(0, 0)", "leads(0, 0, 0)", "what(3, 0, 0)", "says(0, 0)", "answer(0, 1)", "count(0, 0, 3)", "word(0, 0, 3)", "place(0, 1)",
            "differ(0, 1)", "suite(0, 1)", "passes(0, 1, 1)", "ahead(0)", "behind(0)", "cell(0, 0, 0)", "told()", "guesses()", "fits(0)", "status()"};
        for (String ask : asks) {
            answers("lift(7) = -1; status() = 1; " + ask + " = " + (ask.equals("status()") ? 1 : started().call(ask)) + "; status() = 1");
        }
    }

    public static void main(String[] args) {
        new EdgesFailureTest().runAll(args);
    }
}
