/** The boundary cases of promises 1 to 10: a new object, and laying machines. */
public final class EdgesLayingTest extends Edges {
    private static final String ORDER = "Refusals are told in the order in which they are looked for.";

    // ---- promise 1: a new object

    @Says("An empty desk")
    void p01_new_emptyDesk() {
        begin();
        for (int p = 0; p < 16; p++) {
            asks("kind(" + p + ")", -1);
            refused("lift(" + p + ")", MISSING);
        }
    }

    @Says("no failures")
    void p01_new_noFailures() {
        begin();
        for (int p = 0; p < 16; p++) {
            refused("raise(" + p + ")", MISSING);
        }
    }

    @Says("no pupil")
    void p01_new_noPupil() {
        begin();
        refused("exam()", MISSING);
        refused("tell('')", MISSING);
        refused("guess(0)", MISSING);
        asks("ahead(0)", -1);
        asks("behind(0)", -1);
        asks("cell(0, -1, 0)", -1);
        asks("cell(0, 0, 0)", -1);
        asks("told()", 0);
        asks("guesses()", 0);
    }

    @Says("no KNOWN words")
    void p01_new_noKnownWords() {
        begin();
        refused("fewest(0)", MISSING);
        done("unknow()", 0);
        begin("machine(0, 0, 1, 1)");
        asks("fits(0)", -1);
    }

    @Says("status() is 0.")
    void p01_new_status() {
        begin();
        answers("status() = 0; status() = 0");
    }

    // ---- promise 2: machine

    @Says({"ACT: a new machine lies at p (in place of what lay there)"})
    void p02_machine_inPlaceOfWhatLayThere() {
        begin(HOUSE);
        for (int p : new int[] {0, 1, 2, 3, 4, 5, 6, 7, 15}) {
            done("machine(" + p + ", 2, 2, 2)", 2, shows(p, 2, 2, "000", "000"));
        }
        done("machine(3, 3, 2, 2)", 2, shows(3, 3, 2, "000", "000"), "what(3, 0, 0) = 0; what(3, 0, 1) = 0; what(3, 1, 0) = 0");
        changes("machine(8, 0, 1, 1)", 1, "kind(8) = 0; size(8, 0) = 1; size(8, 1) = 1; says(8, 0) = 0; leads(8, 0, 0) = 0; fits(8) = 0");
        done("machine(7, 1, 1, 1)", 1, "raise(7) = -1; status() = 0");
        done("machine(5, 1, 1, 1)", 1, "told() = '000'; exam() = 4");
    }

    @Says({"of that KIND, with n STATES and that k: ANSWERS, TAKES, ACTS are 0. Answers n."})
    void p02_machine_allIs0() {
        begin();
        for (int kind = 0; kind < 4; kind++) {
            for (int n : new int[] {1, 2, 13, 14}) {
                for (int k = 1; k <= 4; k++) {
                    String[] states = new String[n];
                    java.util.Arrays.fill(states, "0000000".substring(0, k + 1));
                    done(with("machine(15, %, %, %)", kind, n, k), n, shows(15, kind, k, states));
                    int what = kind == 3 ? 0 : -1;
                    done(with("machine(0, %, %, %)", kind, n, k), n, with("what(0, 0, 0) = %; what(0, %, %) = %", what, n - 1, k - 1, what));
                }
            }
        }
    }

    @Says("PLACE p")
    void p02_machine_place() {
        begin(HOUSE);
        placeRefused("machine(%, 0, 1, 1)");
        done("machine(0, 0, 1, 1)", 1);
        done("machine(15, 0, 1, 1)", 1);
    }

    @Says("KIND: kind is not 0 to 3")
    void p02_machine_kind() {
        begin(HOUSE);
        for (String kind : new String[] {"-1", "4", "MIN", "MAX"}) {
            refused("machine(0, " + kind + ", 1, 1)", KIND);
            refused("machine(8, " + kind + ", 1, 1)", KIND);
        }
        done("machine(0, 0, 1, 1)", 1, "kind(0) = 0");
        done("machine(0, 3, 1, 1)", 1, "kind(0) = 3");
    }

    @Says("NEGATIVE: n or k is below 0")
    void p02_machine_negative() {
        begin(HOUSE);
        refused("machine(0, 0, -1, 1)", NEGATIVE);
        refused("machine(0, 0, 1, -1)", NEGATIVE);
        refused("machine(0, 0, -1, -1)", NEGATIVE);
        refused("machine(0, 0, MIN, 1)", NEGATIVE);
        refused("machine(0, 0, 1, MIN)", NEGATIVE);
        refused("machine(0, 0, 0, 1)", BEYOND);
        refused("machine(0, 0, 1, 0)", BEYOND);
    }

    @Says("BEYOND: n is not 1 to 14, or k not 1 to 4.")
    void p02_machine_beyond() {
        begin(HOUSE);
        for (String n : new String[] {"0", "15", "MAX"}) {
            refused("machine(0, 3, " + n + ", 1)", BEYOND);
            refused("machine(8, 0, " + n + ", 4)", BEYOND);
        }
        for (String k : new String[] {"0", "5", "MAX"}) {
            refused("machine(0, 3, 1, " + k + ")", BEYOND);
            refused("machine(8, 0, 14, " + k + ")", BEYOND);
        }
        done("machine(8, 0, 1, 1)", 1);
        done("machine(8, 0, 14, 4)", 14);
    }

    @Says(ORDER)
    void p02_machine_order() {
        begin(HOUSE);
        order("machine(8, 0, 2, 2)", "BEYOND 0=16", "BEYOND 0=-1", "KIND 1=4", "KIND 1=-1", "NEGATIVE 2=-1", "NEGATIVE 3=-1",
            "BEYOND 2=0", "BEYOND 2=15", "BEYOND 3=0", "BEYOND 3=5");
        refused("machine(16, 4, -1, 5)", BEYOND);
        refused("machine(8, 4, -1, 5)", KIND);
        refused("machine(8, 3, 15, -1)", NEGATIVE);
    }

    // ---- promise 3: row

    @Says("ACT: STATE s gets a new ROW of n TAKES, all MISSING, ACTS 0. Answers n.")
    void p03_row_newTakes() {
        begin(HOUSE);
        changes("row(2, 0, 3)", 3, "leads(2, 0, 0) = -1; leads(2, 0, 1) = -1; leads(2, 0, 2) = -1");
        changes("row(2, 0, 2)", 2, "leads(2, 0, 0) = -1; leads(2, 0, 1) = -1; leads(2, 0, 2) = -2");
        changes("row(2, 0, 1)", 1, "leads(2, 0, 0) = -1; leads(2, 0, 1) = -2; leads(2, 0, 2) = -2");
        changes("row(2, 0, 0)", 0, "leads(2, 0, 0) = -2; leads(2, 0, 1) = -2; leads(2, 0, 2) = -2");
        changes("row(2, 2, 1)", 1, "leads(2, 2, 0) = -1");
        changes("row(3, 0, 2)", 2, "leads(3, 0, 0) = -1; leads(3, 0, 1) = -1; what(3, 0, 0) = 0; what(3, 0, 1) = 0; fits(3) = 0");
        changes("row(3, 1, 2)", 2, "leads(3, 1, 0) = -1; leads(3, 1, 1) = -1; what(3, 1, 0) = 0; what(3, 1, 1) = 0");
        begin("machine(0, 3, 2, 2); act(0, 0, 1, 2); row(0, 0, 1); row(0, 0, 2)");
        answers("leads(0, 0, 0) = -1; leads(0, 0, 1) = -1; what(0, 0, 0) = 0; what(0, 0, 1) = 0; leads(0, 1, 1) = 0");
    }

    @Says("MACHINE p")
    void p03_row_machine() {
        begin(HOUSE);
        machineRefused("row(%, 0, 1)");
    }

    @Says("KIND: it is WHOLE or MOORE")
    void p03_row_kind() {
        begin(HOUSE);
        refused("row(0, 0, 1)", KIND);
        refused("row(0, 0, 2)", KIND);
        refused("row(1, 0, 2)", KIND);
        refused("row(15, 0, 1)", KIND);
        done("row(2, 0, 2)", 2);
        done("row(3, 0, 2)", 2);
    }

    @Says("BEYOND: no such STATE")
    void p03_row_state() {
        begin(HOUSE);
        for (String s : new String[] {"-1", "3", "MIN", "MAX"}) {
            refused("row(2, " + s + ", 1)", BEYOND);
        }
        refused("row(3, 2, 1)", BEYOND);
        done("row(2, 0, 1)", 1);
        done("row(2, 2, 1)", 1);
        done("row(3, 1, 1)", 1);
        begin("machine(0, 2, 14, 4)");
        done("row(0, 13, 4)", 4, "leads(0, 13, 0) = -1; leads(0, 13, 3) = -1; leads(0, 12, 3) = 0");
        refused("row(0, 14, 4)", BEYOND);
    }

    @Says("NEGATIVE: n is below 0")
    void p03_row_negative() {
        begin(HOUSE);
        refused("row(2, 0, -1)", NEGATIVE);
        refused("row(2, 2, MIN)", NEGATIVE);
        refused("row(3, 0, -1)", NEGATIVE);
        done("row(2, 0, 0)", 0);
    }

    @Says("BEYOND: n is above k")
    void p03_row_aboveK() {
        begin(HOUSE);
        refused("row(2, 0, 4)", BEYOND);
        refused("row(2, 2, MAX)", BEYOND);
        refused("row(3, 0, 3)", BEYOND);
        done("row(2, 0, 3)", 3);
        done("row(3, 0, 2)", 2);
        begin("machine(0, 2, 1, 1)");
        refused("row(0, 0, 2)", BEYOND);
        done("row(0, 0, 1)", 1);
    }

    @Says(ORDER)
    void p03_row_order() {
        begin(HOUSE);
        order("row(2, 0, 1)", "BEYOND 0=16", "MISSING 0=7", "KIND 0=4", "KIND 0=0", "KIND 0=1", "BEYOND 1=3", "BEYOND 1=-1",
            "NEGATIVE 2=-1", "BEYOND 2=4");
        order("row(3, 0, 1)", "KIND 0=6", "BEYOND 1=2", "NEGATIVE 2=-1", "BEYOND 2=5");
    }

    // ---- promise 4: cut

    @Says("ACT: the ROW of STATE s is not there any more. Answers 0.")
    void p04_cut_rowIsGone() {
        begin(HOUSE);
        changes("cut(2, 0)", 0, "leads(2, 0, 0) = -2; leads(2, 0, 1) = -2; leads(2, 0, 2) = -2");
        changes("cut(2, 1)", 0, "leads(2, 1, 0) = -2; leads(2, 1, 1) = -2");
        changes("cut(2, 2)", 0);
        changes("cut(3, 0)", 0, "leads(3, 0, 0) = -2; leads(3, 0, 1) = -2; what(3, 0, 0) = -1; what(3, 0, 1) = -1; fits(3) = 0");
        done("cut(2, 0)", 0, "answer(2, '') = 4; answer(2, '0') = 8; take(2, 0, 0, 0) = -1; status() = 1; row(2, 0, 3) = 3; leads(2, 0, 2) = -1");
        done("row(2, 0, 0)", 0, "take(2, 0, 0, 0) = -1; status() = 2");
    }

    @Says("MACHINE p")
    void p04_cut_machine() {
        begin(HOUSE);
        machineRefused("cut(%, 0)");
    }

    @Says("KIND: it is WHOLE or MOORE")
    void p04_cut_kind() {
        begin(HOUSE);
        refused("cut(0, 0)", KIND);
        refused("cut(1, 0)", KIND);
        refused("cut(15, 0)", KIND);
        done("cut(2, 0)", 0);
        done("cut(3, 0)", 0);
    }

    @Says("BEYOND: no such STATE")
    void p04_cut_state() {
        begin(HOUSE);
        for (String s : new String[] {"-1", "3", "MIN", "MAX"}) {
            refused("cut(2, " + s + ")", BEYOND);
        }
        refused("cut(3, 2)", BEYOND);
        done("cut(2, 0)", 0);
        done("cut(2, 2)", 0);
        done("cut(3, 1)", 0);
        begin("machine(0, 3, 14, 4)");
        done("cut(0, 13)", 0, "leads(0, 13, 0) = -2; leads(0, 12, 3) = 0");
        refused("cut(0, 14)", BEYOND);
    }

    @Says(ORDER)
    void p04_cut_order() {
        begin(HOUSE);
        order("cut(2, 0)", "BEYOND 0=16", "BEYOND 0=-1", "MISSING 0=7", "KIND 0=4", "KIND 0=5", "KIND 0=6", "KIND 0=0", "KIND 0=1",
            "BEYOND 1=9", "BEYOND 1=-1");
    }

    // ---- promise 5: take

    @Says("ACT: the TAKE of STATE s by SIGN a becomes t (-1: MISSING). Answers 0.")
    void p05_take_becomes() {
        begin(HOUSE);
        changes("take(0, 0, 0, 0)", 0, "leads(0, 0, 0) = 0; fits(0) = 0");
        changes("take(1, 2, 1, 2)", 0, "leads(1, 2, 1) = 2");
        changes("take(2, 0, 1, 2)", 0, "leads(2, 0, 1) = 2");
        changes("take(2, 0, 2, -1)", 0, "leads(2, 0, 2) = -1");
        changes("take(3, 0, 0, -1)", 0, "leads(3, 0, 0) = -1; fits(3) = 0");
        changes("take(3, 1, 0, 1)", 0, "leads(3, 1, 0) = 1");
    }

    @Says("MACHINE p")
    void p05_take_machine() {
        begin(HOUSE);
        machineRefused("take(%, 0, 0, 0)");
    }

    @Says("BEYOND: no such STATE s")
    void p05_take_state() {
        begin(HOUSE);
        for (String s : new String[] {"-1", "3", "MIN", "MAX"}) {
            refused("take(1, " + s + ", 0, 0)", BEYOND);
            refused("take(2, " + s + ", 0, 0)", BEYOND);
        }
        refused("take(0, 2, 0, 0)", BEYOND);
        done("take(1, 0, 0, 0)", 0);
        done("take(1, 2, 0, 0)", 0);
        begin("machine(0, 0, 14, 4)");
        done("take(0, 13, 3, 13)", 0, "leads(0, 13, 3) = 13");
        refused("take(0, 14, 3, 13)", BEYOND);
    }

    @Says("MISSING: its ROW is not there")
    void p05_take_noRow() {
        begin(HOUSE);
        refused("take(2, 2, 0, 0)", MISSING);
        refused("take(2, 2, 0, -1)", MISSING);
        done("take(2, 1, 0, 0)", 0);
        begin(HOUSE, "row(2, 2, 0)");
        refused("take(2, 2, 0, 0)", BEYOND);
        begin(HOUSE, "row(2, 2, 1)");
        done("take(2, 2, 0, 0)", 0, "leads(2, 2, 0) = 0");
    }

    @Says("BEYOND: the ROW has no TAKE for a")
    void p05_take_noTake() {
        begin(HOUSE);
        for (String a : new String[] {"-1", "2", "MIN", "MAX"}) {
            refused("take(2, 1, " + a + ", 0)", BEYOND);
            refused("take(0, 0, " + a + ", 0)", BEYOND);
        }
        refused("take(3, 1, 1, 0)", BEYOND);
        refused("take(2, 0, 3, 0)", BEYOND);
        done("take(2, 1, 0, 0)", 0);
        done("take(2, 1, 1, 0)", 0);
        done("take(0, 0, 0, 0)", 0);
        done("take(0, 0, 1, 0)", 0);
        done("take(3, 1, 0, 0)", 0);
        done("take(2, 0, 2, 0)", 0);
    }

    @Says("BEYOND: t is below -1, or from n on")
    void p05_take_target() {
        begin(HOUSE);
        for (String t : new String[] {"-2", "3", "MIN", "MAX"}) {
            refused("take(2, 0, 0, " + t + ")", BEYOND);
            refused("take(1, 0, 0, " + t + ")", BEYOND);
        }
        refused("take(3, 0, 0, 2)", BEYOND);
        refused("take(15, 0, 0, 1)", BEYOND);
        done("take(2, 0, 0, -1)", 0, "leads(2, 0, 0) = -1");
        done("take(2, 0, 0, 0)", 0, "leads(2, 0, 0) = 0");
        done("take(2, 0, 0, 2)", 0, "leads(2, 0, 0) = 2");
        done("take(3, 0, 0, 1)", 0, "leads(3, 0, 0) = 1");
        begin("machine(0, 2, 14, 1)");
        refused("take(0, 0, 0, 14)", BEYOND);
        done("take(0, 0, 0, 13)", 0, "leads(0, 0, 0) = 13");
    }

    @Says("KIND: t is -1, and it is WHOLE or MOORE")
    void p05_take_kind() {
        begin(HOUSE);
        refused("take(0, 0, 0, -1)", KIND);
        refused("take(1, 0, 0, -1)", KIND);
        done("take(0, 0, 0, 0)", 0);
        done("take(1, 0, 0, 0)", 0);
        done("take(2, 0, 0, -1)", 0);
        done("take(3, 0, 0, -1)", 0);
    }

    @Says(ORDER)
    void p05_take_order() {
        begin(HOUSE);
        order("take(2, 0, 0, 0)", "BEYOND 0=16", "MISSING 0=7", "KIND 0=4", "BEYOND 1=9", "BEYOND 1=-1", "MISSING 0=2 1=2",
            "BEYOND 2=9", "BEYOND 2=-1", "BEYOND 3=9", "BEYOND 3=-2", "KIND 0=0 3=-1", "KIND 0=1 3=-1");
    }

    // ---- promise 6: say

    @Says("ACT: the ANSWER of STATE s becomes v. Answers 0.")
    void p06_say_becomes() {
        begin(HOUSE);
        changes("say(0, 0, 1)", 0, "says(0, 0) = 1");
        changes("say(1, 2, 7)", 0, "says(1, 2) = 7");
        changes("say(2, 2, 0)", 0, "says(2, 2) = 0");
        changes("say(3, 1, 5)", 0, "says(3, 1) = 5");
    }

    @Says("MACHINE p")
    void p06_say_machine() {
        begin(HOUSE);
        machineRefused("say(%, 0, 0)");
    }

    @Says("BEYOND: no such STATE")
    void p06_say_state() {
        begin(HOUSE);
        for (String s : new String[] {"-1", "3", "MIN", "MAX"}) {
            refused("say(1, " + s + ", 0)", BEYOND);
            refused("say(2, " + s + ", 0)", BEYOND);
        }
        refused("say(0, 2, 0)", BEYOND);
        refused("say(3, 2, 0)", BEYOND);
        done("say(1, 0, 0)", 0);
        done("say(1, 2, 0)", 0);
        begin("machine(0, 0, 14, 4)");
        done("say(0, 13, 1)", 0, "says(0, 13) = 1; says(0, 12) = 0");
        refused("say(0, 14, 1)", BEYOND);
    }

    @Says({"BEYOND: v is no ANSWER of its KIND.", "0 WHOLE: ANSWERS are 0 and 1; 1 MOORE: ANSWERS are 0 to 7"})
    void p06_say_answerOfKind() {
        begin(HOUSE);
        for (int p = 0; p < 4; p++) {
            int most = p == 0 ? 1 : 7;
            done(with("say(%, 0, 0)", p), 0, with("says(%, 0) = 0", p));
            done(with("say(%, 0, %)", p, most), 0, with("says(%, 0) = %", p, most));
            refused(with("say(%, 0, %)", p, most + 1), BEYOND);
            for (String v : new String[] {"-1", "MIN", "MAX"}) {
                refused(with("say(%, 0, %)", p, v), BEYOND);
            }
        }
    }

    @Says(ORDER)
    void p06_say_order() {
        begin(HOUSE);
        order("say(0, 0, 0)", "BEYOND 0=16", "MISSING 0=7", "KIND 0=4", "KIND 0=5", "KIND 0=6", "BEYOND 1=9", "BEYOND 1=-1",
            "BEYOND 2=8", "BEYOND 2=-1");
    }

    // ---- promise 7: act

    @Says("ACT: the ACT of the TAKE of STATE s by SIGN a becomes h. Answers 0.")
    void p07_act_becomes() {
        begin(HOUSE);
        changes("act(3, 0, 0, 2)", 0, "what(3, 0, 0) = 2; fits(3) = 0");
        changes("act(3, 0, 1, 3)", 0, "what(3, 0, 1) = 3");
        changes("act(3, 1, 0, 0)", 0, "what(3, 1, 0) = 0");
    }

    @Says("MACHINE p")
    void p07_act_machine() {
        begin(HOUSE);
        machineRefused("act(%, 0, 0, 0)");
    }

    @Says("KIND: it is not COUNTED")
    void p07_act_kind() {
        begin(HOUSE);
        for (int p = 0; p < 3; p++) {
            refused(with("act(%, 0, 0, 0)", p), KIND);
            refused(with("act(%, 0, 0, 3)", p), KIND);
        }
        done("act(3, 0, 0, 0)", 0);
    }

    @Says("BEYOND: no such STATE")
    void p07_act_state() {
        begin(HOUSE);
        for (String s : new String[] {"-1", "2", "MIN", "MAX"}) {
            refused("act(3, " + s + ", 0, 0)", BEYOND);
        }
        done("act(3, 0, 0, 0)", 0);
        done("act(3, 1, 0, 0)", 0);
        begin("machine(0, 3, 14, 4)");
        done("act(0, 13, 3, 3)", 0, "what(0, 13, 3) = 3; what(0, 13, 2) = 0");
        refused("act(0, 14, 3, 3)", BEYOND);
    }

    @Says("MISSING: its ROW is not there")
    void p07_act_noRow() {
        begin(HOUSE, "cut(3, 1)");
        refused("act(3, 1, 0, 0)", MISSING);
        done("act(3, 0, 0, 0)", 0);
        begin(HOUSE, "row(3, 1, 0)");
        refused("act(3, 1, 0, 0)", BEYOND);
    }

    @Says("BEYOND: the ROW has no TAKE for a")
    void p07_act_noTake() {
        begin(HOUSE);
        for (String a : new String[] {"-1", "2", "MIN", "MAX"}) {
            refused("act(3, 0, " + a + ", 0)", BEYOND);
        }
        refused("act(3, 1, 1, 0)", BEYOND);
        done("act(3, 0, 0, 0)", 0);
        done("act(3, 0, 1, 0)", 0);
        done("act(3, 1, 0, 0)", 0);
    }

    @Says("BEYOND: h is not 0 to 3.")
    void p07_act_h() {
        begin(HOUSE);
        for (String h : new String[] {"-1", "4", "MIN", "MAX"}) {
            refused("act(3, 0, 0, " + h + ")", BEYOND);
        }
        for (int h = 0; h <= 3; h++) {
            done("act(3, 0, 0, " + h + ")", 0, "what(3, 0, 0) = " + h);
        }
    }

    @Says(ORDER)
    void p07_act_order() {
        begin(HOUSE, "cut(3, 1)");
        order("act(3, 0, 0, 0)", "BEYOND 0=16", "MISSING 0=7", "KIND 0=4", "KIND 0=0", "KIND 0=1", "KIND 0=2", "BEYOND 1=9",
            "BEYOND 1=-1", "MISSING 0=3 1=1", "BEYOND 2=9", "BEYOND 2=-1", "BEYOND 3=4", "BEYOND 3=-1");
    }

    // ---- promise 8: copy

    /** At 0 a MOORE machine, at 1 a COUNTED one with ROWS of 4, 3, 2, 0 TAKES and one that is not there. */
    private void beginCopy() {
        begin(lay(0, 1, 4, "00123", "13210", "21111", "30000"),
            lay(1, 3, 4, "01234", "14321", "2", "3", "4"), "act(1, 0, 0, 1); act(1, 0, 1, 2); act(1, 0, 2, 3); act(1, 0, 3, 1)",
            "row(1, 1, 3); take(1, 1, 0, 4); take(1, 1, 2, 2); act(1, 1, 1, 3); row(1, 2, 2); row(1, 3, 0); cut(1, 4)",
            "blame(0, 3)");
    }

    @Says("ACT: the n TAKES of STATE s from SIGN i on")
    void p08_copy_fromSignI() {
        beginCopy();
        changes("copy(0, 0, 0, 2, 4)", 0, "leads(0, 2, 0) = 0; leads(0, 2, 1) = 1; leads(0, 2, 2) = 2; leads(0, 2, 3) = 3");
        changes("copy(0, 1, 1, 2, 2)", 0, "leads(0, 2, 0) = 2; leads(0, 2, 1) = 1");
        changes("copy(0, 1, 3, 2, 1)", 0, "leads(0, 2, 0) = 0");
    }

    @Says("as they are ahead of this")
    void p08_copy_withinOneState() {
        beginCopy();
        changes("copy(0, 0, 1, 0, 3)", 0, "leads(0, 0, 0) = 1; leads(0, 0, 1) = 2; leads(0, 0, 2) = 3");
        changes("copy(0, 0, 0, 0, 4)", 0);
        changes("copy(1, 0, 1, 0, 3)", 0, "leads(1, 0, 0) = 2; leads(1, 0, 1) = 3; leads(1, 0, 2) = 4; what(1, 0, 0) = 2; what(1, 0, 1) = 3; what(1, 0, 2) = 1");
    }

    @Says({"become those of STATE t from SIGN 0 on (COUNTED: with their ACTS). Answers 0."})
    void p08_copy_toSign0() {
        beginCopy();
        changes("copy(1, 0, 2, 1, 2)", 0, "leads(1, 1, 0) = 3; leads(1, 1, 1) = 4; what(1, 1, 0) = 3; what(1, 1, 1) = 1");
        changes("copy(1, 1, 1, 2, 2)", 0, "leads(1, 2, 0) = -1; leads(1, 2, 1) = 2; what(1, 2, 0) = 3");
    }

    @Says("MACHINE p")
    void p08_copy_machine() {
        begin(HOUSE);
        machineRefused("copy(%, 0, 0, 0, 0)");
    }

    @Says("BEYOND: no such STATE s or t")
    void p08_copy_state() {
        beginCopy();
        for (String s : new String[] {"-1", "4", "MIN", "MAX"}) {
            refused("copy(0, " + s + ", 0, 0, 1)", BEYOND);
            refused("copy(0, 0, 0, " + s + ", 1)", BEYOND);
        }
        done("copy(0, 0, 0, 3, 1)", 0);
        done("copy(0, 3, 0, 0, 1)", 0);
        begin("machine(0, 1, 14, 4); take(0, 13, 3, 13)");
        done("copy(0, 13, 3, 0, 1)", 0, "leads(0, 0, 0) = 13");
        done("copy(0, 0, 0, 13, 4)", 0, "leads(0, 13, 3) = 0");
        refused("copy(0, 14, 3, 0, 1)", BEYOND);
        refused("copy(0, 0, 0, 14, 4)", BEYOND);
    }

    @Says("MISSING: the ROW of one is not there")
    void p08_copy_noRow() {
        beginCopy();
        refused("copy(1, 4, 0, 0, 1)", MISSING);
        refused("copy(1, 0, 0, 4, 1)", MISSING);
        refused("copy(1, 4, 0, 4, 0)", MISSING);
        refused("copy(1, 4, 0, 0, 0)", MISSING);
        refused("copy(1, 0, 0, 4, 0)", MISSING);
        done("copy(1, 3, 0, 0, 0)", 0);
        done("copy(1, 0, 0, 3, 0)", 0);
    }

    @Says("BEYOND: i or n is below 0")
    void p08_copy_below0() {
        beginCopy();
        for (String i : new String[] {"-1", "MIN"}) {
            refused("copy(0, 0, " + i + ", 1, 1)", BEYOND);
            refused("copy(0, 0, " + i + ", 1, 0)", BEYOND);
            refused("copy(0, 0, 0, 1, " + i + ")", BEYOND);
            refused("copy(0, 0, 1, 1, " + i + ")", BEYOND);
        }
        refused("copy(0, 0, -1, 1, 2)", BEYOND);
        refused("copy(0, 0, MIN, 1, MIN)", BEYOND);
        changes("copy(0, 0, 0, 1, 0)", 0);
        done("copy(0, 0, 0, 1, 1)", 0, "leads(0, 1, 0) = 0");
    }

    @Says("or the ROW of s has no n TAKES from i on")
    void p08_copy_beyondS() {
        beginCopy();
        for (int i = 0; i <= 4; i++) {
            done(with("copy(0, 0, %, 1, %)", i, 4 - i), 0);
            refused(with("copy(0, 0, %, 1, %)", i + 1, 4 - i), BEYOND);
        }
        for (int i = 0; i <= 3; i++) {
            done(with("copy(1, 1, %, 0, %)", i, 3 - i), 0);
            refused(with("copy(1, 1, %, 0, %)", i, 4 - i), BEYOND);
        }
        done("copy(1, 3, 0, 0, 0)", 0);
        refused("copy(1, 3, 0, 0, 1)", BEYOND);
        refused("copy(1, 3, 1, 0, 0)", BEYOND);
        refused("copy(0, 0, MAX, 1, 1)", BEYOND);
        refused("copy(0, 0, 1, 1, MAX)", BEYOND);
        refused("copy(0, 0, MAX, 1, MAX)", BEYOND);
        refused("copy(0, 0, MAX, 1, 0)", BEYOND);
    }

    @Says("or that of t no n TAKES.")
    void p08_copy_beyondT() {
        beginCopy();
        done("copy(1, 0, 0, 1, 3)", 0, "leads(1, 1, 2) = 3; what(1, 1, 2) = 3; leads(1, 1, 3) = -2");
        refused("copy(1, 0, 0, 1, 4)", BEYOND);
        done("copy(1, 0, 2, 2, 2)", 0, "leads(1, 2, 1) = 4");
        refused("copy(1, 0, 1, 2, 3)", BEYOND);
        done("copy(1, 0, 4, 3, 0)", 0);
        refused("copy(1, 0, 3, 3, 1)", BEYOND);
    }

    @Says(ORDER)
    void p08_copy_order() {
        begin(HOUSE);
        order("copy(2, 0, 0, 1, 1)", "BEYOND 0=16", "MISSING 0=7", "KIND 0=4", "BEYOND 1=3", "BEYOND 3=-1", "MISSING 0=2 1=2",
            "MISSING 0=2 3=2", "BEYOND 2=-1", "BEYOND 4=-1", "BEYOND 2=3", "BEYOND 4=3");
    }

    // ---- promise 9: draw

    @Says({"ACT: the machine is filled by numbers: x is seed at first; the next number below m is got so: x becomes 1103515245 x + 12345",
        "(an int, that goes round), and the number is the rest of (x without its lowest 16 bits, as a number of 16 bits without sign) by m."})
    void p09_draw_numbers() {
        begin("machine(0, 1, 14, 4)");
        // by 0 x is 12345: its upper 16 bits are 0; the next one is 0xD3DC167E, whose sign is set
        done("draw(0, 0)", 0, "leads(0, 0, 0) = 0; leads(0, 0, 1) = " + 0xD3DC % 14);
        begin("machine(0, 1, 1, 1)");
        // x becomes 0x7FFFFFFF and 0x80000000 by these seeds, then -1 and 0
        answersOfDraw(0x7FFFFFFF);
        answersOfDraw(0x80000000);
        answersOfDraw(-1);
        answersOfDraw(0);
        for (String seed : new String[] {"MAX", "MIN", "-1", "0", "1"}) {
            done("draw(0, " + seed + ")", 0, "says(0, 0) = " + secondNumber((int) School.number(seed)) % 8);
        }
    }

    /** The seed by which x becomes a number at first, found by going through the lowest bits one by one. */
    private void answersOfDraw(int first) {
        int seed = 0;
        for (int bit = 0; bit < 32; bit++) {
            if (((1103515245 * seed + 12345 ^ first) >> bit & 1) != 0) {
                seed += 1 << bit;
            }
        }
        done("draw(0, " + seed + ")", 0, "says(0, 0) = " + secondNumber(seed) % 8);
    }

    private static long secondNumber(int seed) {
        long x = seed & 0xFFFFFFFFL;
        for (int i = 0; i < 2; i++) {
            x = (1103515245L * x + 12345) % (1L << 32);
        }
        return x / 65536;
    }

    private long x;

    private long next(int m) {
        x = (1103515245L * x + 12345) % (1L << 32);
        return x / 65536 % m;
    }

    @Says({"For each STATE in turn: for each TAKE of its ROW (none, if that is not there) in turn: it becomes the next number below n,",
        "then (COUNTED) its ACT the next one below 4; then the STATE's ANSWER the next one below 2 (WHOLE), 8 (others). Answers 0."})
    void p09_draw_inTurn() {
        int[] lengths = {3, -1, 2, 0, 1, 3};
        for (int kind = 0; kind < 4; kind++) {
            StringBuilder start = new StringBuilder(with("machine(0, %, 6, 3)", kind));
            for (int s = 0; s < 6 && kind >= 2; s++) {
                start.append(lengths[s] < 0 ? "; cut(0, 1)" : with("; row(0, %, %)", s, lengths[s]));
            }
            begin(start.toString());
            for (int seed = 1; seed < 40; seed += 13) {
                x = seed;
                StringBuilder due = new StringBuilder("status() = 0");
                for (int s = 0; s < 6; s++) {
                    for (int a = 0; a < 3; a++) {
                        boolean there = kind < 2 || a < lengths[s];
                        due.append(with("; leads(0, %, %) = %", s, a, there ? next(6) : -2));
                        due.append(with("; what(0, %, %) = %", s, a, there && kind == 3 ? next(4) : -1));
                    }
                    due.append(with("; says(0, %) = %", s, next(kind == 0 ? 2 : 8)));
                }
                done("draw(0, " + seed + ")", 0, due.toString());
            }
        }
    }

    @Says("MACHINE p.")
    void p09_draw_machine() {
        begin(HOUSE);
        machineRefused("draw(%, 1)");
        done("draw(0, 1)", 0);
        done("draw(15, 1)", 0);
    }

    // ---- promise 10: lift

    @Says("ACT: nothing lies at p any more. Answers 0.")
    void p10_lift_nothingLies() {
        begin(HOUSE);
        for (int p : new int[] {0, 1, 2, 3, 4, 5, 6, 15}) {
            done("lift(" + p + ")", 0, with("kind(%) = -1; size(%, 0) = -1; size(%, 1) = -1; says(%, 0) = -1; leads(%, 0, 0) = -3; answer(%, '') = -1; lift(%) = -1; status() = 1", p, p, p, p, p, p, p));
        }
        done("lift(0)", 0, "raise(0) = 7; kind(1) = 1");
        done("lift(5)", 0, "exam() = 4; guesses() = 3");
        done("lift(4)", 0, "unknow() = 3");
    }

    @Says("PLACE p")
    void p10_lift_place() {
        begin(HOUSE);
        placeRefused("lift(%)");
        done("lift(0)", 0);
        done("lift(15)", 0);
    }

    @Says("MISSING: nothing lies there.")
    void p10_lift_missing() {
        begin(HOUSE);
        for (int p = 7; p < 15; p++) {
            refused("lift(" + p + ")", MISSING);
        }
        done("lift(6)", 0);
    }

    public static void main(String[] args) {
        new EdgesLayingTest().runAll(args);
    }
}
