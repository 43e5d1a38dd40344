/** The boundary cases that the terms of the document name, and on which the promises rest. */
public final class EdgesTermsTest extends Edges {
    /** At 0 a machine that has the ANSWER 5 for each word. */
    private static final String ALL_5 = "machine(0, 1, 1, 4); say(0, 0, 5)";

    // ---- the object

    @Says("An object is used for at most 512 calls after it has been made")
    void t_object_512Calls() {
        School x = new School();
        for (int c = 1; c <= School.MOST_CALLS - 2; c++) {
            is("call " + c, x.call(with("blame(%, %)", c % 16, c)), 0);
        }
        is("call 511", x.call("raise(14)"), 510);
        is("call 512", x.call("raise(13)"), 509);
        School y = new School();
        is("call 1", y.call("machine(0, 3, 2, 2)"), 2);
        for (int c = 2; c < School.MOST_CALLS; c += 2) {
            is("call " + c, y.call(with("take(0, 0, 0, %)", c / 2 % 2)), 0);
            is("call " + (c + 1), y.call("leads(0, 0, 0)"), c / 2 % 2);
        }
        is("call 512", y.call("status()"), 0);
    }

    // ---- words

    @Says({"SIGNS are 0, 1, 2, 3. A WORD is a row of 0 to 30 SIGNS, told as a number", "No other number is a WORD."})
    void t_words_0To30Signs() {
        begin(ALL_5);
        for (int m = 0; m <= 30; m++) {
            asks("answer(0, " + (1L << 2 * m) + ")", 5);
            asks("answer(0, " + ((2L << 2 * m) - 1) + ")", 5);
            asks("answer(0, " + ((1L << 2 * m) - 1) + ")", -1);
            asks("answer(0, " + (2L << 2 * m) + ")", -1);
            asks("answer(0, " + -(1L << 2 * m) + ")", -1);
        }
        asks("answer(0, " + (1L << 62) + ")", -1);
        asks("answer(0, LMAX)", -1);
        asks("answer(0, LMIN)", -1);
    }

    @Says("that of the empty word is 1, that of a word with one SIGN more behind it is 4 times its number and the SIGN.")
    void t_words_numbers() {
        begin(lay(0, 2, 4, "01---", "1-2--", "2--3-", "3---4", "4----"));
        asks("answer(0, 1)", 0);
        asks("answer(0, 4)", 1);
        asks("answer(0, 17)", 2);
        asks("answer(0, 70)", 3);
        asks("answer(0, 283)", 4);
        asks("answer(0, 484)", 8);
        asks("answer(0, 5)", 8);
        asks("word(0, 4, 0)", 283);
    }

    @Says("ORDER is that of the numbers (shorter words first; of the same length by the first SIGN in which they are unlike).")
    void t_order() {
        begin(ALL_5);
        long[] first = {1, 4, 5, 6, 7, 16, 17, 18, 19, 20, 21, 22, 23, 24, 25, 26, 27, 28, 29, 30, 31, 64, 65};
        for (int i = 0; i < first.length; i++) {
            asks("word(0, 5, " + i + ")", first[i]);
            asks("place(0, " + first[i] + ")", i);
        }
    }

    // ---- machines

    @Says({"MACHINES have STATES 0 to n - 1 (n is 1 to 14) and take SIGNS below k (k is 1 to 4).",
        "Each STATE has an ANSWER and a ROW of TAKES, for the SIGNS from 0 on: a TAKE is a STATE, or MISSING."})
    void t_machines_sizes() {
        for (int n : new int[] {1, 14}) {
            for (int k : new int[] {1, 2, 3, 4}) {
                begin(with("machine(0, 2, %, %); take(0, %, %, %)", n, k, n - 1, k - 1, n - 1));
                asks(with("leads(0, %, %)", n - 1, k - 1), n - 1);
                asks(with("leads(0, %, %)", n - 1, k), -2);
                asks(with("leads(0, %, %)", n, k - 1), -3);
                asks("answer(0, '" + (k - 1) + "')", 0);
                asks("answer(0, '0" + (k - 1) + "')", 0);
                if (k < 4) {
                    asks("answer(0, '" + k + "')", 8);
                    asks("answer(0, '0" + k + "')", 8);
                }
            }
        }
        begin();
        for (String size : new String[] {"0, 1", "15, 1", "1, 0", "1, 5"}) {
            refused("machine(0, 0, " + size + ")", BEYOND);
        }
    }

    @Says({"KINDS: 0 WHOLE: ANSWERS are 0 and 1; 1 MOORE: ANSWERS are 0 to 7; 2 PARTIAL: as a MOORE one, but TAKES may be MISSING, and a ROW may be shorter than k, or not be there;",
        "3 COUNTED: as a PARTIAL one, with a COUNT of 0 to 3, and an ACT of 0 to 3 for each TAKE of a ROW.",
        "(ROWS of WHOLE and MOORE machines have k TAKES, none of them MISSING.)"})
    void t_machines_kinds() {
        begin("machine(0, 0, 1, 2); machine(1, 1, 1, 2); machine(2, 2, 1, 2); machine(3, 3, 1, 2)");
        for (int kind = 0; kind < 4; kind++) {
            boolean loose = kind >= 2;
            done(with("say(%, 0, %)", kind, kind == 0 ? 1 : 7), 0);
            refused(with("say(%, 0, %)", kind, kind == 0 ? 2 : 8), BEYOND);
            String[] changing = {"take(%, 0, 0, -1)", "row(%, 0, 1)", "cut(%, 0)"};
            for (String act : changing) {
                if (loose) {
                    done(with(act, kind), act.startsWith("row") ? 1 : 0);
                } else {
                    refused(with(act, kind), KIND);
                }
            }
            if (kind == 3) {
                done("act(3, 0, 1, 3)", 0);
            } else {
                refused(with("act(%, 0, 1, 3)", kind), KIND);
            }
        }
    }

    // ---- run

    @Says({"A word is RUN from STATE 0 and COUNT 0 on, SIGN by SIGN, by the TAKES.", "Else the word's ANSWER is that of the STATE where it ends."})
    void t_run_fromState0() {
        begin(lay(0, 1, 2, "312", "402", "510"));
        answers("answer(0, '') = 3; answer(0, '0') = 4; answer(0, '1') = 5; answer(0, '01') = 5; answer(0, '00') = 3; answer(0, '11') = 3; answer(0, '10') = 4; answer(0, '0^30') = 3; answer(0, '0^29') = 4");
        begin("machine(0, 3, 2, 1); take(0, 0, 0, 1); act(0, 0, 0, 2); say(0, 0, 6)");
        answers("answer(0, '') = 6; answer(0, '0') = 8");
    }

    @Says("It has NO ANSWER if a TAKE is MISSING, or the ROW has none for the SIGN, or is not there")
    void t_run_noTake() {
        // STATE 0: a ROW of 2, one MISSING; STATE 1: a ROW of 0; STATE 2: none
        begin("machine(0, 2, 3, 3); row(0, 0, 2); take(0, 0, 0, 1); row(0, 1, 0); cut(0, 2); say(0, 1, 4)");
        answers("answer(0, '') = 0; answer(0, '0') = 4; answer(0, '1') = 8; answer(0, '2') = 8; answer(0, '3') = 8; answer(0, '00') = 8; answer(0, '10') = 8; answer(0, '0^30') = 8");
        begin("machine(0, 2, 3, 3); row(0, 0, 2); take(0, 0, 1, 2); row(0, 1, 0); cut(0, 2); say(0, 2, 4)");
        answers("answer(0, '1') = 4; answer(0, '10') = 8; answer(0, '11') = 8; answer(0, '0') = 8");
        begin("machine(0, 0, 1, 3); say(0, 0, 1)");
        answers("answer(0, '2') = 1; answer(0, '3') = 8; answer(0, '2^30') = 1; answer(0, '2^29 3') = 8; answer(0, '3 2^29') = 8");
    }

    /** A COUNTED machine of one STATE: SIGN 0 has ACT 1, SIGN 1 ACT 2, SIGN 2 ACT 3, SIGN 3 ACT 0. */
    private static final String ACTS = "machine(0, 3, 1, 4); say(0, 0, 7); act(0, 0, 0, 1); act(0, 0, 1, 2); act(0, 0, 2, 3)";

    @Says("ACT 1 makes the COUNT one more and can't be at 3")
    void t_run_act1() {
        begin(ACTS);
        answers("answer(0, '0') = 7; answer(0, '00') = 7; answer(0, '000') = 7; answer(0, '0000') = 8; answer(0, '00010') = 7; answer(0, '000100') = 8; answer(0, '0001110000') = 8; answer(0, '000111000') = 7; answer(0, '00001') = 8");
    }

    @Says("ACT 2 makes it one less and can't be at 0")
    void t_run_act2() {
        begin(ACTS);
        answers("answer(0, '1') = 8; answer(0, '01') = 7; answer(0, '011') = 8; answer(0, '000111') = 7; answer(0, '0001111') = 8; answer(0, '10') = 8; answer(0, '0101') = 7");
    }

    @Says("ACT 3 leaves it and can't be unless it is 0")
    void t_run_act3() {
        begin(ACTS);
        answers("answer(0, '2') = 7; answer(0, '22') = 7; answer(0, '02') = 8; answer(0, '002') = 8; answer(0, '0002') = 8; answer(0, '012') = 7; answer(0, '21') = 8; answer(0, '2000') = 7; answer(0, '20000') = 8");
    }

    @Says("ACT 0 leaves it and can always be.")
    void t_run_act0() {
        begin(ACTS);
        answers("answer(0, '3') = 7; answer(0, '03') = 7; answer(0, '0003') = 7; answer(0, '3^30') = 7; answer(0, '0003111') = 7; answer(0, '00031111') = 8; answer(0, '31') = 8; answer(0, '00030') = 8; answer(0, '0330330') = 7");
    }

    @Says("or (COUNTED) its ACT can't be: ACT 1")
    void t_run_countedAlone() {
        // the MISSING TAKE has an ACT, but leads nowhere all the same
        begin("machine(0, 3, 1, 2); take(0, 0, 1, -1); act(0, 0, 1, 1)");
        answers("answer(0, '0') = 0; answer(0, '1') = 8");
        // what was COUNTED once leaves no ACTS behind
        begin(ACTS, "machine(0, 2, 1, 4)");
        answers("answer(0, '1') = 0; answer(0, '0000') = 0; answer(0, '02') = 0");
    }

    // ---- GREAT, LEAST

    @Says({"A COUNTED machine is GREAT if rows of SIGNS that have an ANSWER end at more than 14 pairs of a STATE and a COUNT.", "No other machine is GREAT."})
    void t_great_moreThan14Pairs() {
        begin(pairs(0, 13), pairs(1, 14), pairs(2, 15), pairs(3, 16), wide(4));
        done("least(0, 8)", 13);
        done("least(1, 8)", 14);
        for (int p = 2; p <= 4; p++) {
            refused(with("least(%, 8)", p), FULL);
            refused(with("teacher(8, 0, %, 0)", p), FULL);
            refused(with("join(2, %, 0, 8)", p), FULL);
            asks(with("differ(%, 1)", p), -1);
            asks(with("suite(%, 0)", p), -1);
        }
        // pairs that no row ends at do not count: 14 STATES, at COUNT 0 alone, by an ACT that can't be
        begin(ring(0, 3, 14), "act(0, 13, 0, 2)", ring(1, 3, 14), "act(1, 13, 0, 3)", ring(2, 3, 14), "act(2, 13, 0, 1)", ring(3, 2, 14), ring(4, 0, 14), ring(5, 1, 14));
        done("least(0, 8)", 14);
        done("least(1, 8)", 1);
        refused("least(2, 8)", FULL);
        for (int p = 3; p <= 5; p++) {
            done(with("least(%, 8)", p), 1);
        }
        // 4 STATES by 4 COUNTS, and 3 STATES by 4 of them
        begin("machine(0, 3, 4, 2); take(0, 0, 0, 1); take(0, 1, 0, 2); take(0, 2, 0, 3); act(0, 0, 1, 1)", "machine(1, 3, 3, 2); take(1, 0, 0, 1); take(1, 1, 0, 2); act(1, 0, 1, 1)");
        refused("least(0, 8)", FULL);
        done("least(1, 8)", 12);
    }

    @Says({"The LEAST machine of one that is not GREAT is ALIKE to it.",
        "Its STATES are the classes of rows of SIGNS that have an ANSWER by it; two are in one class if, with any row of SIGNS behind both, both have the same ANSWER or both NO ANSWER."})
    void t_least_classes() {
        begin(lay(0, 1, 2, "132", "022", "011", "733"));
        done("least(0, 8)", 3, shows(8, 1, 2, "112", "711", "022"), "differ(0, 8) = 0");
        // STATE 1 is that of no row; 0 and 2 are of one class
        begin(lay(0, 1, 1, "32", "70", "30"));
        done("least(0, 8)", 1, shows(8, 1, 1, "30"), "differ(0, 8) = 0");
        // MISSING, a ROW that is too short and one that is not there are the same
        begin("machine(0, 2, 4, 2); take(0, 0, 0, 1); take(0, 0, 1, 2); row(0, 1, 2); row(0, 2, 1); cut(0, 3); take(0, 2, 0, 3)", "machine(1, 2, 3, 2); take(1, 0, 0, 1); take(1, 0, 1, 2); row(1, 1, 0); cut(1, 2)");
        done("least(0, 8)", 3, shows(8, 2, 2, "012", "0--", "01-"), "differ(0, 8) = 0");
        done("least(1, 8)", 2, shows(8, 2, 2, "011", "0--"), "differ(1, 8) = 0");
        // one of them has an ANSWER behind 0, the other has none
        begin(lay(0, 2, 2, "012", "0--", "00-"));
        done("least(0, 8)", 3, shows(8, 2, 2, "012", "0--", "00-"));
        // told apart by the last of 13 SIGNS alone
        begin(ring(0, 0, 14), "say(0, 13, 1)");
        done("least(0, 8)", 14, "differ(0, 8) = 0");
    }

    @Says("They are numbered in the ORDER of their first words; the first word of a STATE is its ACCESS.")
    void t_least_numbers() {
        begin(lay(0, 1, 2, "021", "011", "122"));
        done("least(0, 8)", 3, shows(8, 0, 2, "012", "111", "022"));
        // the last STATE is first reached by 0, the others by 1, 2 and 10
        begin(lay(0, 1, 3, "0421", "1333", "2322", "3333", "4444"));
        done("least(0, 8)", 5, shows(8, 1, 3, "0123", "4111", "2422", "1444", "3444"));
    }

    @Says("k is one more than the greatest SIGN by which some STATE has a TAKE that is not MISSING, at least 1; all ROWS are there and have k TAKES.")
    void t_least_k() {
        for (int sign = 0; sign < 4; sign++) {
            begin("machine(0, 2, 2, 4); row(0, 0, 4); row(0, 1, 4); take(0, 0, " + sign + ", 1)");
            done("least(0, 8)", 2, shows(8, 2, sign + 1, "0" + "---".substring(0, sign) + "1", "0" + "----".substring(0, sign + 1)));
        }
        begin("machine(0, 2, 1, 4); row(0, 0, 4)", "machine(1, 2, 1, 4); cut(1, 0)", "machine(2, 2, 1, 4); row(2, 0, 0)", "machine(3, 3, 1, 4); act(3, 0, 0, 2); act(3, 0, 1, 2); act(3, 0, 2, 2); act(3, 0, 3, 2)");
        for (int p = 0; p < 4; p++) {
            done(with("least(%, 8)", p), 1, shows(8, 2, 1, "0-"));
        }
        // a greater SIGN at a STATE that no row ends at does not count; one that is reached late does
        begin(lay(0, 2, 4, "00---", "00000"), "machine(1, 2, 3, 4); row(1, 0, 1); take(1, 0, 0, 1); row(1, 1, 1); take(1, 1, 0, 2); row(1, 2, 3); take(1, 2, 2, 0)");
        done("least(0, 8)", 1, shows(8, 0, 1, "00"));
        done("least(1, 8)", 3, shows(8, 2, 3, "01--", "02--", "0--0"));
    }

    @Says("It is WHOLE if no TAKE is MISSING and no ANSWER is above 1, else MOORE if no TAKE is MISSING, else PARTIAL.")
    void t_least_kind() {
        begin(lay(0, 3, 1, "10"), lay(1, 3, 1, "20"), lay(2, 2, 1, "1-"), lay(3, 1, 1, "11", "01", "70"), lay(4, 1, 1, "11", "21"), lay(5, 2, 1, "71", "7-"), lay(6, 2, 2, "1-0"), lay(7, 2, 2, "10-"));
        int[] kinds = {0, 1, 2, 0, 1, 2, 2, 0};
        for (int p = 0; p < 8; p++) {
            School x = started();
            done(with("least(%, 8)", p), x.call(with("least(%, 8)", p)), "kind(8) = " + kinds[p]);
        }
    }

    // ---- the desk

    @Says({"THE DESK has PLACES 0 to 15. In each lies a machine, a TEACHER, or nothing (at first).", "PLACE p: BEYOND, if p is not 0 to 15."})
    void t_desk_places() {
        begin();
        for (int p = 0; p < 16; p++) {
            done(with("machine(%, 0, 1, 1)", p), 1, with("kind(%) = 0; lift(%) = 0; kind(%) = -1", p, p, p));
            asks(with("kind(%)", p), -1);
        }
        placeRefused("machine(%, 0, 1, 1)");
        placeRefused("blame(%, 1)");
        // sixteen things at once
        StringBuilder all = new StringBuilder("machine(15, 0, 1, 1)");
        StringBuilder due = new StringBuilder("kind(15) = 0");
        for (int p = 0; p < 15; p++) {
            all.append(with("; machine(%, %, %, 1)", p, p % 4, p % 14 + 1));
            due.append(with("; kind(%) = %; size(%, 0) = %", p, p % 4, p, p % 14 + 1));
        }
        begin(all.toString());
        answers(due.toString());
    }

    @Says("Each thing is of its own: what is put elsewhere is a new one.")
    void t_desk_ofItsOwn() {
        begin(HOUSE, "least(0, 8); least(0, 9); teacher(10, 0, 0, 0); guess(11)");
        changes("say(0, 0, 1)", 0, "says(0, 0) = 1");
        changes("say(8, 0, 1)", 0, "says(8, 0) = 1");
        changes("take(9, 1, 1, 0)", 0, "leads(9, 1, 1) = 0");
        changes("say(11, 1, 1)", 0, "says(11, 1) = 1");
        begin(HOUSE, "join(1, 0, 0, 8); fewest(9)");
        changes("say(8, 0, 1)", 0, "says(8, 0) = 1");
        changes("say(9, 2, 0)", 0, "says(9, 2) = 0; fits(9) = 2");
    }

    @Says({"A TEACHER keeps a machine that nobody sees, its SECRET.", "KINDS: 0 EXACT; 1 SHORT: an EXACT one with a LIMIT; 2 FORGETFUL: a SHORT one with FORGOTTEN words, at most 8.", "(The LIMIT of an EXACT one is 30.)"})
    void t_desk_teachers() {
        begin(HOUSE);
        for (int p = 4; p <= 6; p++) {
            asks(with("says(%, 0)", p), -1);
            asks(with("leads(%, 0, 0)", p), -3);
            asks(with("what(%, 0, 0)", p), -1);
            asks(with("count(%, 0, 0)", p), -1);
            asks(with("differ(%, 0)", p), -1);
            refused(with("say(%, 0, 0)", p), KIND);
        }
        asks("size(4, 0)", 30);
        asks("size(5, 0)", 3);
        asks("size(6, 0)", 5);
        done("forget(6, 16)", 3, "forget(6, 17) = 4; forget(6, 18) = 5; forget(6, 19) = 6; forget(6, 20) = 7; forget(6, 21) = 8; forget(6, 22) = -1; status() = 5");
        refused("forget(4, 16)", KIND);
        refused("forget(5, 16)", KIND);
    }

    // ---- findings

    @Says({"FINDINGS: 0 none, 1 MISSING, 2 BEYOND, 3 NEGATIVE, 4 KIND, 5 FULL, 6 ALIKE.", "An ACT that is refused answers NONE, and changes nothing but status(), which is the FINDING.",
        "`NONE = -1`: None; what a refused ACT answers."})
    void t_findings() {
        is("NONE", WordSchool.NONE, -1);
        begin(HOUSE, pairs(8, 15));
        refused("lift(7)", 1);
        refused("lift(16)", 2);
        refused("row(2, 0, -1)", 3);
        refused("lift(-1)", 2);
        refused("row(0, 0, 1)", 4);
        refused("least(8, 9)", 5);
        refused("tell('')", 6);
        done("lift(0)", 0, "status() = 0");
    }

    @Says({"Two of them stand for more: PLACE p: BEYOND, if p is not 0 to 15.", "MACHINE p: PLACE p, then MISSING, if nothing lies there, then KIND, if no machine does.",
        "Refusals are told in the order in which they are looked for."})
    void t_findings_machine() {
        begin(HOUSE);
        String[] acts = {"row(%, 99, -1)", "cut(%, 99)", "take(%, 99, 99, 99)", "say(%, 99, 99)", "act(%, 99, 99, 99)", "copy(%, 99, 99, 99, 99)", "draw(%, 99)", "least(%, 99)",
            "join(0, %, 99, 99)", "join(0, 0, %, 99)", "teacher(8, 99, %, -1)"};
        for (String act : acts) {
            machineRefused(act);
        }
    }

    /**
     * Each run of calls, made behind the others on one object, answers as it does on a new one: nothing
     * is left behind by what was asked or made before.
     */
    private void inTurn(String... runs) {
        School x = started();
        for (int turn = 0; turn < 2 * runs.length; turn++) {
            // forwards, then backwards
            String run = runs[turn < runs.length ? turn : 2 * runs.length - 1 - turn];
            School fresh = started();
            for (School.Call c : School.parseAll(run)) {
                is(c.text + " in turn " + turn, x.call(c), fresh.call(c));
            }
        }
    }

    @Says({"ASKS change nothing, status() neither.", "Each thing is of its own: what is put elsewhere is a new one."})
    void t_findings_asksInTurn() {
        begin(pairs(0, 6), "machine(1, 0, 1, 3)", lay(2, 1, 2, "712", "320", "501"), lay(3, 0, 2, "010", "101"), pairs(4, 15), "machine(5, 1, 14, 4); draw(5, 1)", lay(6, 2, 3, "01--", "1-2-", "0--0"));
        inTurn("suite(1, 0)", "suite(0, 2)", "suite(3, 1)", "suite(1, 2)", "suite(2, 0)", "suite(0, 0)", "suite(6, 1)", "suite(3, 0)", "suite(2, 2)", "suite(1, 1)");
        inTurn("passes(0, 1, 0)", "passes(1, 3, 2)", "passes(3, 2, 1)", "passes(0, 4, 2)", "passes(6, 1, 1)", "passes(1, 1, 0)", "passes(0, 4, 0)", "passes(3, 3, 2)", "suite(2, 1)", "passes(1, 4, 0)", "passes(2, 2, 0)");
        inTurn("differ(0, 1)", "differ(5, 5)", "differ(2, 3)", "differ(0, 0)", "differ(6, 3)", "differ(4, 1)", "differ(5, 2)", "suite(0, 1)", "differ(1, 0)", "differ(3, 3)");
        inTurn("count(5, 1, 30)", "count(0, 0, 5)", "count(4, 0, 14)", "count(1, 0, 30)", "count(4, 0, 15)", "word(5, 1, 99999)", "word(4, 0, 14)", "word(4, 0, 15)", "word(1, 0, 4)", "place(5, '0123 0^26')", "place(4, '0^14')", "place(1, '222')", "place(0, '00')", "word(0, 0, 6)");
    }

    @Says({"One that is done answers what it says", "Each thing is of its own: what is put elsewhere is a new one."})
    void t_findings_actsInTurn() {
        begin(pairs(0, 6), "machine(1, 0, 1, 3)", lay(2, 0, 2, "010", "101"), pairs(3, 15), "machine(4, 0, 14, 4); draw(4, 1)", lay(5, 2, 3, "01--", "1-2-", "0--0"));
        String look = "kind(15); size(15, 0); size(15, 1); leads(15, 0, 0); leads(15, 0, 1); leads(15, 1, 0); leads(15, 1, 1); says(15, 0); says(15, 1); lift(15); status()";
        inTurn("least(0, 15); " + look, "least(4, 15); " + look, "least(3, 15); " + look, "least(5, 15); " + look, "least(1, 15); " + look, "least(2, 15); " + look);
        inTurn("join(0, 2, 5, 15); " + look, "join(3, 2, 2, 15); " + look, "join(4, 5, 0, 15); " + look, "join(5, 5, 0, 15); " + look, "join(2, 4, 0, 15); " + look, "join(1, 2, 5, 15); " + look, "join(3, 4, 4, 15); " + look, "join(3, 1, 5, 15); " + look);
        String forget = "; unknow()";
        begin(lay(0, 1, 4, "01222", "13333", "20000", "30000"), "teacher(1, 0, 0, 0)", lay(2, 0, 1, "01", "02", "12"), "teacher(3, 0, 2, 0)");
        inTurn("know(1, ''); know(1, '3'); fewest(15); " + look + forget, "know(3, ''); know(3, '0'); know(3, '00'); fewest(15); " + look + forget, "know(1, ''); know(1, '3'); know(1, '0'); fewest(15)" + forget,
            "know(1, '0'); fewest(15); " + look + forget, "know(1, ''); know(1, '0'); know(1, '2'); fewest(15); " + look + forget, "know(3, '00'); fewest(15); " + look + forget);
    }

    // ---- the pupil

    /** At 0: YES is a number of SIGNS 0 that is 13, 27, ..; SIGN 1 changes nothing. */
    private static String fourteens() {
        StringBuilder calls = new StringBuilder("machine(0, 0, 14, 2); say(0, 13, 1)");
        for (int s = 0; s < 14; s++) {
            calls.append(with("; take(0, %, 0, %); take(0, %, 1, %)", s, (s + 1) % 14, s, s));
        }
        return calls + "; teacher(1, 0, 0, 0); learn(1)";
    }

    @Says("THE PUPIL (none at first) has a teacher, AHEAD and BEHIND, lists of words, and a GUESS, a machine.")
    void t_pupil_noneAtFirst() {
        begin(lay(0, 0, 1, "10"), "teacher(1, 0, 0, 0)");
        answers("ahead(0) = -1; behind(0) = -1; guesses() = 0; cell(0, -1, 0) = -1");
        refused("guess(2)", MISSING);
        done("learn(1)", 1, "ahead(0) = 1; ahead(1) = -1; behind(0) = 1; behind(1) = -1; guesses() = 1; cell(0, -1, 0) = 1; guess(2) = 1; differ(0, 2) = 0");
    }

    @Says({"A ROW of a row of SIGNS u is what the teacher answers to u with each word of BEHIND behind it (these may be longer than 30 SIGNS: the teacher answers all the same).",
        "k is that of the SECRET."})
    void t_pupil_longerThan30() {
        // BEHIND gets a word of 29 SIGNS; cell asks for 29, 30, 31 SIGNS, then for up to 43
        begin(fourteens(), "tell('0^27 111')");
        asks("behind(1)", School.number("'0^26 111'"));
        answers("cell(0, -1, 1) = 0; cell(0, 0, 1) = 1; cell(1, -1, 1) = 1; cell(1, 0, 1) = 0; cell(1, 1, 1) = 1; cell(1, 2, 1) = -1");
        begin(fourteens(), "tell('0^27 111'); exam(); exam(); exam(); exam(); exam(); exam(); exam(); exam(); exam(); exam(); exam(); exam(); exam(); exam()");
        asks("ahead(13)", School.number("'0^13'"));
        asks("ahead(14)", -1);
        for (int i = 0; i < 14; i++) {
            answers(with("cell(%, -1, 1) = %; cell(%, 0, 1) = %; cell(%, 1, 1) = %", i, (i + 26) % 14 == 13 ? 1 : 0, i, (i + 27) % 14 == 13 ? 1 : 0, i, (i + 26) % 14 == 13 ? 1 : 0));
        }
        done("guess(2)", 14, "differ(0, 2) = 0");
    }

    @Says({"To CLOSE is: as long as there are a word of AHEAD and a SIGN below k so that the word with the SIGN behind it has an answer other than 8, and has another ROW than each word of AHEAD:",
        "of such the first word in AHEAD, and of its SIGNS the least, and that word with the SIGN behind it comes to the end of AHEAD."})
    void t_close_order() {
        // all ANSWERS are unlike: 0 and 1 come ahead of what stands behind 0
        begin(lay(0, 1, 2, "012", "130", "240", "300", "400"), "teacher(1, 0, 0, 0)");
        done("learn(1)", 5, "ahead(0) = ''; ahead(1) = '0'; ahead(2) = '1'; ahead(3) = '00'; ahead(4) = '10'; ahead(5) = -1");
        // by 0 and by 1 the same ROW: the lesser SIGN comes alone; a MISSING TAKE is none
        begin(lay(0, 2, 3, "011-", "1--2", "2---"), "teacher(1, 0, 0, 0)");
        done("learn(1)", 3, "ahead(1) = '0'; ahead(2) = '02'; ahead(3) = -1; cell(0, 2, 0) = 8");
        // no TAKE at all, and 14 STATES at once
        begin(lay(0, 2, 1, "7-"), "teacher(1, 0, 0, 0)");
        done("learn(1)", 1, "ahead(1) = -1; cell(0, 0, 0) = 8");
        begin(ring(0, 1, 14), "say(0, 1, 1); say(0, 2, 2); say(0, 3, 3); say(0, 4, 4); say(0, 5, 5); say(0, 6, 6); say(0, 7, 7); teacher(1, 0, 0, 0)");
        done("learn(1)", 8, "ahead(7) = '0^7'; ahead(8) = -1; exam() = 9; told() = '0^9'; behind(1) = '0'; exam() = 14; told() = '0^15'; behind(2) = '0^6'; ahead(13) = '0^13'; ahead(14) = -1; exam() = 0");
    }

    @Says({"To CLOSE is: as long as there are a word of AHEAD and a SIGN below k", "What stands in w behind its first high SIGNS comes to the end of BEHIND; then it CLOSES, and the GUESS is made anew."})
    void t_close_asManyAsCanBe() {
        // rows of up to 13 SIGNS have the same ANSWER, longer ones none: each word that is learnt finds one STATE more
        StringBuilder due = new StringBuilder("guesses() = 1");
        for (int c = 1; c <= 13; c++) {
            due.append(with("; exam() = %; told() = '0^14'; behind(%) = '0^%'; ahead(%) = '0^%'; guesses() = %", c + 1, c, 14 - c, c, c, c + 1));
        }
        begin(pairs(0, 14), "teacher(1, 0, 0, 0)");
        done("learn(1)", 1, due.toString(), "exam() = 0; behind(14) = -1; ahead(14) = -1; cell(13, -1, 13) = 8; cell(12, -1, 13) = 0; cell(12, -1, 12) = 8; cell(13, 0, 13) = 8; guess(2) = 14; differ(0, 2) = 0");
    }

    @Says({"Behind that the GUESS is made: its STATES are the words of AHEAD, in their order; a STATE's ANSWER is what the teacher answers to its word;",
        "its TAKE by a SIGN is the STATE with the ROW that the word with the SIGN behind it has, MISSING if the teacher answers 8 to this;",
        "it is WHOLE, MOORE or PARTIAL as said for LEAST machines, but k is that of the SECRET."})
    void t_guess_made() {
        begin(lay(0, 1, 2, "012", "130", "240", "300", "400"), "teacher(1, 0, 0, 0); learn(1)");
        done("guess(2)", 5, shows(2, 1, 2, "012", "130", "240", "300", "400"));
        // the SECRET is PARTIAL and has an ANSWER above 1, the first GUESS sees neither
        begin(lay(0, 2, 1, "01", "02", "7-"), "teacher(1, 0, 0, 0); learn(1)");
        done("guess(2)", 1, shows(2, 0, 1, "00"), "exam() = 3; guess(2) = 3", shows(2, 2, 1, "01", "02", "7-"));
        // 7 is an ANSWER of both, MISSING of the SECRET alone
        begin(lay(0, 2, 1, "71", "72", "7-"), "teacher(1, 0, 0, 0); learn(1)");
        done("guess(2)", 1, shows(2, 1, 1, "70"));
        // the GUESS has no TAKE by SIGN 2, and k is 3 all the same
        begin(lay(0, 2, 3, "01--", "02--", "0--0"), "teacher(1, 0, 0, 0); learn(1)");
        done("guess(2)", 1, shows(2, 2, 3, "00--"));
    }

    @Says({"To LEARN a word w of m SIGNS to which teacher and GUESS answer unlike (NO ANSWER is 8): for i from 0 to m let V(i) be what the teacher answers to the AHEAD word of the STATE of the GUESS at which the first i SIGNS of w end, with the other SIGNS of w behind it;",
        "(V(0) and V(m) are unlike.)", "What stands in w behind its first high SIGNS comes to the end of BEHIND; then it CLOSES, and the GUESS is made anew."})
    void t_learn_fewSigns() {
        // two SIGNS: half is 1 at once, then high is low + 1
        begin(lay(0, 0, 1, "01", "02", "12"), "teacher(1, 0, 0, 0); learn(1)");
        done("tell('00')", 3, "behind(1) = '0'; behind(2) = -1; guesses() = 2; guess(2) = 3", shows(2, 0, 1, "01", "02", "12"));
        // three SIGNS: V is 1, 0, 0, 0; then 1, 1, 0, 0
        begin(lay(0, 0, 1, "01", "02", "03", "13"), "teacher(1, 0, 0, 0); learn(1)");
        done("tell('000')", 2, "behind(1) = '00'; tell('000') = 4; behind(2) = '0'");
    }

    @Says("low is 0, high is m; as long as high is above low + 1: half is (low + high) / 2 without the rest; if V(half) is V(0), low becomes half, else high does.")
    void t_learn_halves() {
        // each third row of SIGNS is answered 0: V is 0, 1, 1, 0, 1, 1; half of 5 is 2, not 3
        begin(lay(0, 0, 1, "11", "12", "00"), "teacher(1, 0, 0, 0); learn(1)");
        done("tell('0^5')", 3, "behind(1) = '0000'");
        // V is 0 at 0, 3, 6, ..: of 8 half is 4, then 2, then 1; of 11 half is 5, then 2, then 1
        done("tell('0^8')", 3, "behind(1) = '0^7'");
        done("tell('0^11')", 3, "behind(1) = '0^10'");
        // of 14 half is 7, then 3: V(3) is V(0), then half of 3 and 7 is 5, then 4
        done("tell('0^14')", 3, "behind(1) = '0^10'");
        // of 29 half is 14, then 7, then 3, then 5, then 4; of 26 half is 13, then 6, then 9, then 11, then 10
        done("tell('0^29')", 3, "behind(1) = '0^25'");
        done("tell('0^26')", 3, "behind(1) = '0^16'");
    }

    @Says("8, if these i have NO ANSWER by the GUESS.")
    void t_learn_noAnswer() {
        // 0 leads on twice, then 1 stays: the GUESS has no TAKE by 1
        begin(lay(0, 2, 2, "51-", "52-", "5-2"), "teacher(1, 0, 0, 0); learn(1)");
        done("tell('001')", 2, "behind(1) = '01'");
        done("tell('001111')", 2, "behind(1) = '01111'");
        done("tell('00 1^28')", 2, "behind(1) = '0 1^28'");
        // NO ANSWER by the teacher alone: V(0) is 8
        done("tell('000')", 2, "behind(1) = '00'");
        done("tell('0^30')", 2, "behind(1) = '00'");
    }

    public static void main(String[] args) {
        new EdgesTermsTest().runAll(args);
    }
}
