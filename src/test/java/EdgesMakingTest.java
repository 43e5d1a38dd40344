import java.util.ArrayList;
import java.util.HashSet;
import java.util.List;
import java.util.Set;

/** The boundary cases of promises 21 to 24: machines made of others, and SUITES. */
public final class EdgesMakingTest extends Edges {
    private static final String ORDER = "Refusals are told in the order in which they are looked for.";

    /** A PARTIAL machine by which the rows of so many SIGNS 0 have an ANSWER, the longest one the ANSWER v. */
    private static String chain(int p, int longest, int v) {
        return ring(p, 2, longest + 1) + with("; say(%, %, %); take(%, %, 0, -1)", p, longest, v, p, longest);
    }

    /** What is due of a WHOLE machine by one SIGN, from its ANSWERS; the last STATE leads to the one named. */
    private static String showsLine(int p, String answers, int back) {
        String[] states = new String[answers.length()];
        for (int s = 0; s < states.length; s++) {
            int to = s + 1 == states.length ? back : s + 1;
            states[s] = answers.substring(s, s + 1) + Character.forDigit(to, 36);
        }
        return shows(p, 0, 1, states);
    }

    // ---- promise 21: least

    @Says("ACT: the LEAST machine of the one at a lies at to. Answers its n.")
    void p21_least_lies() {
        begin(HOUSE);
        done("least(0, 8)", 2, shows(8, 0, 2, "010", "101"), shows(0, 0, 2, "010", "101"));
        done("least(2, 8)", 3, shows(8, 2, 3, "41-2", "52--", "6---"));
        done("least(2, 2)", 3, shows(2, 2, 3, "41-2", "52--", "6---"));
        done("least(2, 4)", 3, shows(4, 2, 3, "41-2", "52--", "6---"), "kind(2) = 2; leads(2, 2, 0) = -2");
        done("least(15, 0)", 1, shows(0, 0, 1, "00"), "raise(0) = 7");
        changes("least(15, 8)", 1, "kind(8) = 0; size(8, 0) = 1; size(8, 1) = 1; says(8, 0) = 0; leads(8, 0, 0) = 0; fits(8) = 0");
        begin(ring(0, 1, 14), "say(0, 13, 7)");
        done("least(0, 15)", 14, "size(15, 0) = 14; leads(15, 13, 0) = 0; leads(15, 12, 0) = 13; says(15, 13) = 7; kind(15) = 1; say(0, 13, 6) = 0; says(15, 13) = 7");
    }

    @Says("ACT: the LEAST machine of the one at a lies at to.")
    void p21_least_ofItsOwnKind() {
        // what lay there leaves neither its KIND nor its ACTS behind
        begin(HOUSE);
        done("least(3, 3)", 5, shows(3, 2, 2, "31-", "323", "343", "2--", "3-3"), "answer(3, '000') = 3; answer(3, '0000') = 8; answer(3, '01') = 2; answer(3, '0001') = 2; answer(3, '1') = 8",
            "count(3, 3, 3) = 1; what(3, 0, 0) = -1; act(3, 0, 0, 1) = -1; status() = 4; row(3, 0, 2) = 2; say(3, 0, 7) = 0; take(3, 1, 0, -1) = 0");
        done("least(0, 3)", 2, "row(3, 0, 1) = -1; status() = 4; say(3, 0, 2) = -1; status() = 2; take(3, 0, 0, -1) = -1; status() = 4; answer(3, '00') = 0; draw(3, 1) = 0; kind(3) = 0");
        done("least(1, 2)", 3, "row(2, 0, 1) = -1; status() = 4; say(2, 0, 7) = 0; take(2, 0, 0, -1) = -1; status() = 4");
        done("least(2, 15)", 3, "row(15, 0, 1) = 1; cut(15, 1) = 0; say(15, 2, 7) = 0; leads(15, 1, 0) = -2");
        done("least(2, 8)", 3, "row(8, 0, 1) = 1; cut(8, 1) = 0; say(8, 2, 7) = 0; leads(8, 1, 0) = -2");
    }

    @Says("ACT: the LEAST machine of the one at a lies at to. Answers its n.")
    void p21_least_asLargeAsCanBe() {
        // 14 STATES by 4 SIGNS, all told apart: what is put there is ALIKE, and has no ACTS of what lay there
        for (int kind = 0; kind < 4; kind++) {
            begin(with("machine(0, %, 14, 4); draw(0, %); machine(15, 3, 14, 4); draw(15, 5)", kind, kind < 3 ? 1 : 21842));
            done("least(0, 15)", 14, "differ(0, 15) = 0; size(15, 1) = 4; kind(15) = " + (kind == 0 ? 0 : kind == 3 ? 2 : 1));
        }
    }

    @Says("MACHINE a")
    void p21_least_machine() {
        begin(HOUSE);
        machineRefused("least(%, 8)");
    }

    @Says("PLACE to")
    void p21_least_place() {
        begin(HOUSE);
        placeRefused("least(0, %)");
        done("least(1, 0)", 3);
        done("least(1, 15)", 3);
    }

    @Says("FULL: it is GREAT.")
    void p21_least_great() {
        begin(pairs(0, 14), pairs(1, 15), wide(2), "machine(3, 1, 1, 1)");
        done("least(0, 8)", 14, "kind(8) = 2; size(8, 1) = 1; leads(8, 13, 0) = -1; leads(8, 12, 0) = 13");
        refused("least(1, 8)", FULL);
        refused("least(1, 1)", FULL);
        refused("least(1, 3)", FULL);
        refused("least(2, 8)", FULL);
    }

    @Says(ORDER)
    void p21_least_order() {
        begin(HOUSE, pairs(8, 15));
        order("least(0, 9)", "BEYOND 0=16", "BEYOND 0=-1", "MISSING 0=7", "KIND 0=4", "KIND 0=6", "BEYOND 1=16", "BEYOND 1=-1", "FULL 0=8");
    }

    // ---- promise 22: join

    /** At 0: words that end in 0, by k 2; at 1: those of an even number of SIGNS, by k 3. */
    private void beginTwo() {
        begin(lay(0, 0, 2, "010", "110"), lay(1, 0, 3, "1111", "0000"), lay(2, 1, 1, "20"), "teacher(3, 0, 0, 0)", pairs(4, 15));
    }

    @Says({"ACT: a machine that says of words whether they belong lies at to.", "A row of SIGNS below K BELONGS: how 0: it is YES by A and by B"})
    void p22_join_both() {
        beginTwo();
        done("join(0, 0, 1, 8)", 4, shows(8, 0, 3, "0112", "0302", "0222", "1112"));
        done("join(0, 1, 0, 8)", 4, shows(8, 0, 3, "0112", "0302", "0222", "1112"));
        done("join(0, 0, 0, 0)", 2, shows(0, 0, 2, "010", "110"));
        done("join(0, 0, 1, 3)", 4, "kind(3) = 0; kind(0) = 0; size(0, 0) = 2");
    }

    /** 14 STATES, none of them YES, that lead on by one SIGN, the last one nowhere; by the other SIGN they stay. */
    private static String counting(int p, int sign) {
        StringBuilder calls = new StringBuilder(with("machine(%, 2, 14, 2)", p));
        for (int s = 0; s < 14; s++) {
            calls.append(with("; take(%, %, %, %); take(%, %, %, %)", p, s, sign, s < 13 ? s + 1 : -1, p, s, 1 - sign, s));
        }
        return calls.toString();
    }

    @Says({"how 0: it is YES by A and by B", "1: by one of them or both"})
    void p22_join_allPairs() {
        // each STATE of one, or none, comes up with each of the other, or none: 225 pairs, and nothing belongs
        begin(counting(0, 0), counting(1, 1));
        done("join(0, 0, 1, 8)", 1, shows(8, 0, 2, "000"));
        done("join(1, 0, 1, 8)", 1, shows(8, 0, 2, "000"));
        done("join(1, 1, 0, 8)", 1, shows(8, 0, 2, "000"));
    }

    @Says("1: by one of them or both")
    void p22_join_either() {
        beginTwo();
        done("join(1, 0, 1, 8)", 5, shows(8, 0, 3, "1123", "1004", "0004", "0444", "1333"));
        done("join(1, 1, 0, 8)", 5, shows(8, 0, 3, "1123", "1004", "0004", "0444", "1333"));
        done("join(1, 1, 1, 1)", 2, shows(1, 0, 3, "1111", "0000"));
    }

    @Says("2: it is not YES by A")
    void p22_join_not() {
        beginTwo();
        done("join(2, 0, 1, 8)", 2, shows(8, 0, 2, "110", "010"));
        done("join(2, 1, 0, 1)", 2, shows(1, 0, 3, "0111", "1000"));
        // the empty word alone has an ANSWER, 1 or 0
        begin("machine(0, 2, 1, 2); cut(0, 0); say(0, 0, 1); machine(1, 2, 1, 2); cut(1, 0)");
        done("join(2, 0, 0, 8)", 2, shows(8, 0, 1, "01", "11"));
        done("join(2, 1, 0, 8)", 1, shows(8, 0, 1, "10"));
    }

    @Says("3: it can be cut into two (one may be empty), the first one YES by A, the second one by B")
    void p22_join_rowed() {
        beginTwo();
        done("join(3, 0, 1, 8)", 7, "kind(8) = 0; size(8, 1) = 3; answer(8, '') = 0; answer(8, '0') = 1; answer(8, '00') = 1; answer(8, '01') = 0",
            "answer(8, '012') = 1; answer(8, '0012') = 1; answer(8, '022') = 1; answer(8, '02') = 0; answer(8, '2') = 0; answer(8, '1') = 0",
            "answer(8, '10') = 1; answer(8, '20') = 0; answer(8, '0222') = 0; answer(8, '3') = 8");
        // the word 0, and the empty word: one part may be empty
        begin(chain(0, 1, 1), "machine(1, 2, 1, 1); cut(1, 0); say(1, 0, 1); machine(2, 2, 1, 1); cut(2, 0)");
        done("join(3, 0, 1, 8)", 3, showsLine(8, "010", 2));
        done("join(3, 1, 0, 8)", 3, showsLine(8, "010", 2));
        done("join(3, 0, 0, 0)", 4, showsLine(0, "0010", 3));
        done("join(3, 1, 1, 8)", 2, showsLine(8, "10", 1));
        done("join(3, 1, 2, 8)", 1, showsLine(8, "0", 0));
        done("join(3, 2, 1, 8)", 1, showsLine(8, "0", 0));
    }

    @Says("4: it is YES by A when it is turned round")
    void p22_join_turned() {
        beginTwo();
        done("join(4, 0, 1, 8)", 3, shows(8, 0, 2, "012", "111", "022"));
        done("join(4, 0, 0, 0)", 3, shows(0, 0, 2, "012", "111", "022"));
        begin(lay(0, 2, 3, "01--", "0-2-", "0--3", "1---"), "machine(1, 2, 1, 2); cut(1, 0)");
        done("join(4, 0, 0, 8)", 5, "answer(8, '210') = 1; answer(8, '012') = 0; answer(8, '') = 0; answer(8, '21') = 0; answer(8, '2100') = 0");
        done("join(4, 1, 0, 8)", 1, showsLine(8, "0", 0));
        begin("machine(0, 2, 1, 2); cut(0, 0); say(0, 0, 1)");
        done("join(4, 0, 0, 8)", 2, showsLine(8, "10", 1));
    }

    @Says("5: it can be cut into any number of pieces that are YES by A (the empty one into none).")
    void p22_join_again() {
        beginTwo();
        done("join(5, 0, 1, 8)", 2, shows(8, 0, 2, "101", "001"));
        begin(chain(0, 2, 1), "machine(1, 2, 1, 1); cut(1, 0); machine(2, 2, 1, 1); cut(2, 0); say(2, 0, 1)");
        done("join(5, 0, 0, 8)", 2, showsLine(8, "10", 0));
        done("join(5, 1, 0, 8)", 2, showsLine(8, "10", 1));
        done("join(5, 2, 0, 8)", 2, showsLine(8, "10", 1));
        begin(lay(0, 2, 2, "01-", "0-2", "1--"));
        done("join(5, 0, 0, 0)", 3, shows(0, 0, 2, "112", "020", "022"));
        // STATE 0 answers 0 and comes up again: the empty word belongs, 0 does not
        begin(lay(0, 0, 2, "001", "101"));
        done("join(5, 0, 0, 8)", 2, shows(8, 0, 2, "110", "010"));
    }

    @Says("Let A and B be the LEAST machines of those at a and b; a row of SIGNS is YES by one if its ANSWER by it is 1.")
    void p22_join_leastMachines() {
        // ANSWERS above 1 and SIGNS that no word gets to do not count; NO ANSWER and 0 are not YES
        begin(lay(0, 2, 4, "01---", "1----", "70121"), lay(1, 1, 1, "11", "11", "20"));
        done("join(0, 0, 1, 8)", 3, shows(8, 0, 1, "01", "12", "02"));
        done("join(1, 0, 1, 8)", 1, shows(8, 0, 1, "10"));
        done("join(2, 0, 9, 8)", 3, shows(8, 0, 1, "11", "02", "12"));
    }

    @Says("K is k of A, or, for how 0, 1, 3, the greater one of those of A and B.")
    void p22_join_greaterK() {
        begin("machine(0, 0, 1, 1); machine(1, 0, 1, 4); machine(2, 2, 1, 4); take(2, 0, 3, -1)");
        for (int how = 0; how < 6; how++) {
            boolean two = how == 0 || how == 1 || how == 3;
            done(with("join(%, 0, 1, 8)", how), how == 5 ? 2 : 1, "size(8, 1) = " + (two ? 4 : 1));
            done(with("join(%, 1, 0, 8)", how), how == 5 ? 2 : 1, "size(8, 1) = 4");
            done(with("join(%, 2, 0, 8)", how), how == 5 ? 2 : 1, "size(8, 1) = 3");
        }
    }

    @Says({"The machine is WHOLE, with that K, and has the fewest STATES of those that give the ANSWER 1 to rows of SIGNS below K that BELONG, 0 to others;",
        "STATES are numbered in the ORDER of the first words that end there. Answers its n."})
    void p22_join_fewestStates() {
        // rings of 4 and 6 SIGNS: both by each 12th row, one or the other by a pattern of 12
        begin(ring(0, 0, 4), ring(1, 0, 6), "say(0, 0, 1); say(1, 0, 1)");
        done("join(0, 0, 1, 8)", 12, showsLine(8, "100000000000", 0));
        done("join(1, 0, 1, 8)", 12, showsLine(8, "100010101000", 0));
        begin(lay(0, 1, 2, "021", "011", "122"));
        done("join(1, 0, 0, 8)", 3, shows(8, 0, 2, "012", "111", "022"));
    }

    @Says("The machine is WHOLE, with that K, and has the fewest STATES")
    void p22_join_ofItsOwnKind() {
        begin(HOUSE);
        for (int to : new int[] {0, 1, 2, 3, 4, 8}) {
            done(with("join(2, 15, 15, %)", to), 1, with("kind(%) = 0; row(%, 0, 1) = -1; status() = 4; say(%, 0, 2) = -1; status() = 2; say(%, 0, 0) = 0; act(%, 0, 0, 0) = -1; status() = 4; answer(%, '0^30') = 0", to, to, to, to, to, to));
        }
        // 14 STATES by 4 SIGNS
        begin("machine(0, 0, 14, 4); draw(0, 1)");
        done("join(2, 0, 0, 8)", 14, "size(8, 1) = 4; join(2, 8, 8, 9) = 14; differ(0, 9) = 0; join(0, 0, 8, 10) = 1; join(1, 0, 8, 10) = 1; says(10, 0) = 1");
    }

    @Says("BEYOND: how is not 0 to 5")
    void p22_join_how() {
        begin(HOUSE);
        for (String how : new String[] {"-1", "6", "MIN", "MAX"}) {
            refused("join(" + how + ", 0, 0, 8)", BEYOND);
        }
        for (int how = 0; how < 6; how++) {
            done(with("join(%, 15, 15, 8)", how), how == 5 ? 2 : 1);
        }
    }

    @Says("MACHINE a")
    void p22_join_machineA() {
        begin(HOUSE);
        for (int how = 0; how < 6; how++) {
            machineRefused("join(" + how + ", %, 0, 8)");
        }
    }

    @Says("MACHINE b (how 0, 1, 3; else b is not looked at)")
    void p22_join_machineB() {
        begin(HOUSE, pairs(8, 15));
        for (int how : new int[] {0, 1, 3}) {
            machineRefused("join(" + how + ", 0, %, 9)");
        }
        for (int how : new int[] {2, 4, 5}) {
            for (String b : new String[] {"-1", "16", "MIN", "MAX", "7", "4", "5", "6", "1", "8"}) {
                done(with("join(%, 15, %, 9)", how, b), how == 5 ? 2 : 1);
            }
        }
    }

    @Says("PLACE to")
    void p22_join_place() {
        begin(HOUSE);
        for (int how = 0; how < 6; how++) {
            placeRefused("join(" + how + ", 0, 0, %)");
            done(with("join(%, 15, 15, 0)", how), how == 5 ? 2 : 1);
            done(with("join(%, 15, 15, 15)", how), how == 5 ? 2 : 1);
        }
    }

    @Says("FULL: one of these is GREAT")
    void p22_join_great() {
        begin("machine(0, 0, 1, 1)", pairs(1, 14), pairs(2, 15), wide(3));
        for (int how = 0; how < 6; how++) {
            refused(with("join(%, 2, 0, 8)", how), FULL);
            refused(with("join(%, 3, 0, 8)", how), FULL);
            if (how == 0 || how == 1 || how == 3) {
                refused(with("join(%, 0, 2, 8)", how), FULL);
                refused(with("join(%, 0, 3, 8)", how), FULL);
            }
            // no row is YES by the one of 14 pairs
            done(with("join(%, 1, 0, 8)", how), how == 5 ? 2 : 1);
        }
    }

    @Says("KIND: A or B has an ANSWER above 1")
    void p22_join_answerAbove1() {
        begin(lay(0, 1, 1, "10"), lay(1, 1, 1, "20"), lay(2, 1, 1, "11", "02", "72"), lay(3, 1, 1, "11", "01", "70"));
        for (int how = 0; how < 6; how++) {
            refused(with("join(%, 1, 0, 8)", how), KIND);
            refused(with("join(%, 2, 0, 8)", how), KIND);
            if (how == 0 || how == 1 || how == 3) {
                refused(with("join(%, 0, 1, 8)", how), KIND);
                refused(with("join(%, 0, 2, 8)", how), KIND);
            } else {
                done(with("join(%, 0, 1, 8)", how), 1);
            }
        }
        done("join(0, 3, 0, 8)", 2, showsLine(8, "10", 1));
        done("join(2, 3, 0, 8)", 2, showsLine(8, "01", 1));
    }

    @Says("or the machine would have more than 14 STATES.")
    void p22_join_moreThan14States() {
        // the row of 12 SIGNS 0 alone: 14 STATES, one of them for all that is longer; of 13: 15 STATES
        begin(chain(0, 12, 1), chain(1, 13, 1), "machine(2, 2, 1, 1); cut(2, 0); say(2, 0, 1); machine(3, 1, 1, 1); say(3, 0, 1)");
        String due = "00000000000010";
        done("join(0, 0, 3, 8)", 14, showsLine(8, due, 13));
        done("join(1, 0, 0, 8)", 14, showsLine(8, due, 13));
        done("join(2, 0, 0, 8)", 14, showsLine(8, "11111111111101", 13));
        done("join(3, 0, 2, 8)", 14, showsLine(8, due, 13));
        done("join(3, 2, 0, 8)", 14, showsLine(8, due, 13));
        done("join(4, 0, 2, 8)", 14, showsLine(8, due, 13));
        refused("join(0, 1, 3, 8)", FULL);
        refused("join(1, 1, 1, 8)", FULL);
        refused("join(2, 1, 0, 8)", FULL);
        refused("join(3, 1, 2, 8)", FULL);
        refused("join(3, 2, 1, 8)", FULL);
        refused("join(3, 0, 0, 8)", FULL);
        refused("join(4, 1, 2, 8)", FULL);
        // pieces of 5, 8, 9, 11 SIGNS make all lengths but 1 to 4, 6, 7, 12: 14 STATES; of 3 and 8: 13 is the longest that is not made
        begin(chain(0, 11, 1), "say(0, 5, 1); say(0, 8, 1); say(0, 9, 1)", chain(1, 8, 1), "say(1, 3, 1)");
        done("join(5, 0, 0, 8)", 14, showsLine(8, "10000100111101", 13));
        refused("join(5, 1, 0, 8)", FULL);
        // 2 by 7 and 3 by 5 rows
        begin(ring(0, 0, 2), ring(1, 0, 7), ring(2, 0, 3), ring(3, 0, 5), "say(0, 0, 1); say(1, 0, 1); say(2, 0, 1); say(3, 0, 1)");
        done("join(0, 0, 1, 8)", 14, showsLine(8, "10000000000000", 0));
        refused("join(0, 2, 3, 8)", FULL);
        refused("join(1, 2, 3, 8)", FULL);
    }

    /** At 0 all words are YES, at 1 some: all words belong, but by many SETS. */
    private static String manyRowed(int n, int seed) {
        return with("machine(0, 0, 1, 2); say(0, 0, 1); machine(1, 0, %, 2); draw(1, %); say(1, 0, 1)", n, seed);
    }

    /** By SIGN 0 STATE 0 alone comes up again, behind the first SET that is like it; all words belong. */
    private static String manyAgain(int n, int seed) {
        School x = new School();
        String drawn = with("machine(0, 0, %, 2); draw(0, %); take(0, 0, 0, 0); say(0, 0, 1)", n, seed);
        for (School.Call c : School.parseAll(drawn)) {
            x.call(c);
        }
        return drawn + with("; say(0, %, 1)", x.call("leads(0, 0, 1)"));
    }

    /** As manyRowed, but by SIGN 2 A has a STATE without TAKES, and B nothing: two SETS more, one of them none at all. */
    private static String rowedWithNone(int seed) {
        return "machine(0, 2, 2, 3); say(0, 0, 1); take(0, 0, 2, 1); cut(0, 1)" + with("; machine(1, 0, 12, 2); draw(1, %); say(1, 0, 1)", seed);
    }

    /** As manyAgain, but by SIGN 2 STATE 0 leads to a STATE without TAKES: two SETS more, one of them none at all. */
    private static String againWithNone(int seed) {
        StringBuilder calls = new StringBuilder("machine(0, 2, 12, 3)");
        for (int s = 1; s < 11; s++) {
            calls.append(with("; row(0, %, 2)", s));
        }
        calls.append(with("; row(0, 0, 2); row(0, 11, 2); draw(0, %)", seed));
        School x = new School();
        for (School.Call c : School.parseAll(calls.toString())) {
            x.call(c);
        }
        for (int s = 0; s < 11; s++) {
            if (s > 1 && x.call("says(0, " + s + ")") > 1) {
                calls.append(with("; say(0, %, 0)", s));
            }
            for (int a = 0; a < 2; a++) {
                if (x.call(with("leads(0, %, %)", s, a)) == 11) {
                    calls.append(with("; take(0, %, %, 0)", s, a));
                }
            }
        }
        return calls + "; row(0, 0, 3); take(0, 0, 0, 0); take(0, 0, 1, 1); take(0, 0, 2, 11); say(0, 0, 1); say(0, 1, 1); cut(0, 11); say(0, 11, 0)";
    }

    // the seeds of what follows were looked for; setsOf counts as the document tells it

    @Says({"FULL: more than 200 SETS come up (how 3, 4, 5)", "SETS, from a first one on by all rows of SIGNS below K",
        "how 3: a STATE of A, or none, with some STATES of B (or none): the first one is STATE 0, with STATE 0 of B if STATE 0 of A answers 1; by a SIGN each STATE becomes its TAKE (none, if that is MISSING or not in the ROW), and behind that STATE 0 of B is with them if the one of A (if there is one) answers 1."})
    void p22_join_setsOfRowed() {
        begin(manyRowed(12, 5117));
        is("SETS", setsOf(3), 200);
        done("join(3, 0, 1, 8)", 1, shows(8, 0, 2, "100"));
        begin(manyRowed(12, 32885));
        is("SETS", setsOf(3), 201);
        refused("join(3, 0, 1, 8)", FULL);
        begin(rowedWithNone(16972));
        is("SETS", setsOf(3), 200);
        done("join(3, 0, 1, 8)", 2, shows(8, 0, 3, "1001", "0111"));
        begin(rowedWithNone(8347));
        is("SETS", setsOf(3), 201);
        refused("join(3, 0, 1, 8)", FULL);
    }

    @Says({"FULL: more than 200 SETS come up (how 3, 4, 5)", "how 4: some STATES of A (or none): the first one is those that answer 1; by a SIGN it becomes all STATES whose TAKE by that is one of the SET."})
    void p22_join_setsOfTurned() {
        // words whose third or fourth SIGN is 1: turned round there are 8 or 16 SETS, and as many STATES
        begin(lay(0, 0, 2, "011", "022", "034", "033", "144"));
        is("SETS", setsOf(4), 8);
        done("join(4, 0, 1, 8)", 8);
        begin(lay(0, 0, 2, "011", "022", "033", "045", "044", "155"));
        is("SETS", setsOf(4), 16);
        refused("join(4, 0, 1, 8)", FULL);
        // the SET of none comes up, and is one of them
        begin(chain(0, 12, 1), chain(1, 13, 1));
        is("SETS", setsOf(4), 14);
        done("join(4, 0, 1, 8)", 14);
        refused("join(4, 1, 0, 8)", FULL);
    }

    @Says({"FULL: more than 200 SETS come up (how 3, 4, 5)", "how 5: some STATES of A (or none): by a SIGN each becomes its TAKE (none, if that is MISSING), and behind that STATE 0 is with them if one of these answers 1;",
        "the first one is like STATE 0 alone, but counts as a SET of its own."})
    void p22_join_setsOfAgain() {
        begin(manyAgain(10, 4084));
        is("SETS", setsOf(5), 200);
        done("join(5, 0, 1, 8)", 1, shows(8, 0, 2, "100"));
        begin(manyAgain(11, 2025));
        is("SETS", setsOf(5), 201);
        refused("join(5, 0, 1, 8)", FULL);
        begin(againWithNone(24428));
        is("SETS", setsOf(5), 200);
        done("join(5, 0, 1, 8)", 2, shows(8, 0, 3, "1001", "0111"));
        begin(againWithNone(20841));
        is("SETS", setsOf(5), 201);
        refused("join(5, 0, 1, 8)", FULL);
    }

    /** A LEAST machine, read from the desk. */
    private static final class Grid {
        final int[] says;
        final int[][] leads;

        Grid(School x, int p) {
            int n = (int) x.call("size(" + p + ", 0)");
            int k = (int) x.call("size(" + p + ", 1)");
            says = new int[n];
            leads = new int[n][k];
            for (int s = 0; s < n; s++) {
                says[s] = (int) x.call(with("says(%, %)", p, s));
                for (int a = 0; a < k; a++) {
                    leads[s][a] = (int) x.call(with("leads(%, %, %)", p, s, a));
                }
            }
        }

        int signs() {
            return leads[0].length;
        }

        int lead(int s, int a) {
            return a < signs() ? leads[s][a] : -1;
        }

        int end(int from, String word) {
            int s = from;
            for (char sign : word.toCharArray()) {
                s = leads[s][sign - '0'];
            }
            return s;
        }
    }

    /** A SET: a STATE of A (how 3; -1 is none) with others; the first one of how 5 is like another, but of its own. */
    private record Group(boolean first, int state, Set<Integer> others) {
    }

    /** How many SETS come up for the machines at 0 and (how 3) 1, as the document tells it. */
    private int setsOf(int how) {
        School x = started();
        x.call("least(0, 2)");
        Grid a = new Grid(x, 2);
        x.call("least(1, 3)");
        Grid b = how == 3 ? new Grid(x, 3) : a;
        List<Group> sets = new ArrayList<>();
        sets.add(firstGroup(how, a));
        for (int i = 0; i < sets.size() && i < 1000; i++) {
            for (int sign = 0; sign < Math.max(a.signs(), b.signs()); sign++) {
                Group next = nextGroup(how, a, b, sets.get(i), sign);
                if (!sets.contains(next)) {
                    sets.add(next);
                }
            }
        }
        return sets.size();
    }

    private static Group firstGroup(int how, Grid a) {
        Set<Integer> others = new HashSet<>();
        for (int s = 0; s < a.says.length && how == 4; s++) {
            if (a.says[s] == 1) {
                others.add(s);
            }
        }
        if (how == 5 || how == 3 && a.says[0] == 1) {
            others.add(0);
        }
        return new Group(how == 5, 0, others);
    }

    private static Group nextGroup(int how, Grid a, Grid b, Group from, int sign) {
        Set<Integer> others = new HashSet<>();
        boolean again = false;
        for (int s = 0; s < b.says.length; s++) {
            int t = b.lead(s, sign);
            if (how == 4 && from.others.contains(t)) {
                others.add(s);
            }
            if (how != 4 && from.others.contains(s) && t >= 0) {
                others.add(t);
                again |= how == 5 && b.says[t] == 1;
            }
        }
        int state = how != 3 ? 0 : from.state < 0 ? -1 : a.lead(from.state, sign);
        if (again || how == 3 && state >= 0 && a.says[state] == 1) {
            others.add(0);
        }
        return new Group(false, state, others);
    }

    @Says(ORDER)
    void p22_join_order() {
        // 8: an ANSWER above 1; 9: GREAT, with an ANSWER above 1; 10: 15 STATES to say what is not YES by it
        begin(lay(0, 0, 1, "01", "10"), "teacher(4, 0, 0, 0); machine(3, 0, 1, 1)", lay(8, 1, 1, "20"), pairs(9, 15), "say(9, 0, 2)", chain(10, 13, 1));
        for (int how : new int[] {0, 1, 3}) {
            order("join(" + how + ", 0, 3, 5)", "BEYOND 0=6", "BEYOND 0=-1", "BEYOND 1=16", "MISSING 1=7", "KIND 1=4", "BEYOND 2=16", "MISSING 2=7", "KIND 2=4",
                "BEYOND 3=16", "BEYOND 3=-1", "FULL 1=9", "FULL 2=9", "KIND 1=8", "KIND 2=8");
        }
        for (int how : new int[] {2, 4, 5}) {
            order("join(" + how + ", 0, 99, 5)", "BEYOND 0=6", "BEYOND 0=-1", "BEYOND 1=16", "MISSING 1=7", "KIND 1=4", "BEYOND 3=16", "BEYOND 3=-1", "FULL 1=9", "KIND 1=8");
        }
        refused("join(2, 10, 0, 5)", FULL);
        refused("join(1, 10, 8, 5)", KIND);
        refused("join(1, 8, 10, 5)", KIND);
        refused("join(1, 10, 10, 16)", BEYOND);
    }

    // ---- promise 23: suite

    @Says({"ASK: how many words the SUITE of the machine at p has, for h.",
        "The SUITE is all words of a first, a middle and a last part, one behind the other: first: the ACCESS of a STATE of L, or that and one SIGN below k behind it;"})
    void p23_suite_first() {
        begin("machine(0, 0, 1, 1); machine(1, 0, 1, 3)", lay(2, 0, 1, "11", "00"), lay(3, 0, 2, "112", "033", "103", "133"));
        // the empty word and each SIGN
        asks("suite(0, 0)", 2);
        asks("suite(1, 0)", 4);
        // the empty word, 0, 00: the last part tells nothing apart that the empty one does not
        asks("suite(2, 0)", 3);
        // firsts: up to two SIGNS, 000, 001; lasts: the empty one, 0, 00
        asks("suite(3, 0)", 19);
    }

    @Says("middle: any word of at most h SIGNS below k;")
    void p23_suite_middle() {
        begin("machine(0, 0, 1, 1); machine(1, 0, 1, 3); machine(2, 0, 1, 2)");
        for (int h = 0; h <= 2; h++) {
            asks("suite(0, " + h + ")", 2 + h);
        }
        asks("suite(1, 1)", 13);
        asks("suite(1, 2)", 40);
        asks("suite(2, 0)", 3);
        asks("suite(2, 1)", 7);
        asks("suite(2, 2)", 15);
    }

    @Says("last: the empty word, or for two STATES of L the first row of SIGNS in ORDER that has, behind their ACCESS words, unlike ANSWERS by L, or one ANSWER and NO ANSWER.")
    void p23_suite_last() {
        // by 0, 00 and so on the longer ones are told apart; firsts are 0 to 6 SIGNS, lasts 0 to 5
        begin(chain(0, 5, 0), chain(1, 5, 1), lay(2, 2, 2, "1-1", "1-2", "1--"));
        asks("suite(0, 0)", 12);
        asks("suite(0, 1)", 13);
        asks("suite(0, 2)", 14);
        // the end answers 1: lasts are 0 to 4 SIGNS
        asks("suite(1, 0)", 11);
        // firsts: the empty one, 0, 1, 10, 11, 110, 111; lasts: the empty one, 1, 11
        asks("suite(2, 0)", 15);
        // the most words: 6 STATES, k 3, h 2
        begin(lay(0, 1, 3, "0123", "0234", "0345", "0451", "0512", "1034"));
        asks("suite(0, 2)", suiteOf(2));
        asks("suite(0, 1)", suiteOf(1));
        asks("suite(0, 0)", suiteOf(0));
        // all but the last two STATES have ANSWERS of their own: 0 tells these two apart
        begin(lay(0, 1, 2, "012", "134", "250", "300", "400", "410"));
        asks("suite(0, 2)", suiteOf(2));
        asks("suite(0, 0)", suiteOf(0));
    }

    /** How many words the SUITE of the machine at 0 has, by all of its parts; it has 6 STATES, none of whose TAKES is MISSING. */
    private long suiteOf(int h) {
        School x = started();
        is("it is LEAST already", x.call("least(0, 1)"), 6);
        Grid least = new Grid(x, 1);
        List<String> words = new ArrayList<>();
        words.add("");
        for (int i = 0; i < words.size() && words.get(i).length() < 6; i++) {
            for (int a = 0; a < least.signs(); a++) {
                words.add(words.get(i) + a);
            }
        }
        Set<String> lasts = new HashSet<>();
        lasts.add("");
        for (int s = 0; s < 6; s++) {
            for (int t = 0; t < s; t++) {
                lasts.add(firstUnlike(least, words, s, t));
            }
        }
        Set<String> all = new HashSet<>();
        for (String first : firstParts(least, words)) {
            for (String middle : words) {
                for (String last : lasts) {
                    all.add(middle.length() <= h ? first + middle + last : "");
                }
            }
        }
        return all.size();
    }

    private static String firstUnlike(Grid least, List<String> words, int s, int t) {
        for (String word : words) {
            if (least.says[least.end(s, word)] != least.says[least.end(t, word)]) {
                return word;
            }
        }
        throw new IllegalStateException("no word tells them apart");
    }

    private static Set<String> firstParts(Grid least, List<String> words) {
        Set<Integer> reached = new HashSet<>();
        Set<String> firsts = new HashSet<>();
        for (String word : words) {
            if (reached.add(least.end(0, word))) {
                firsts.add(word);
                for (int a = 0; a < least.signs(); a++) {
                    firsts.add(word + a);
                }
            }
        }
        return firsts;
    }

    @Says("Let L be its LEAST machine, and k that of L.")
    void p23_suite_ofTheLeast() {
        // what no row of SIGNS ends at adds neither STATES nor SIGNS
        begin(ring(0, 3, 14), ring(1, 0, 14), "machine(2, 2, 1, 4); take(2, 0, 3, -1)", lay(3, 2, 4, "10---", "71122", "22222"));
        asks("suite(0, 0)", 2);
        asks("suite(1, 0)", 2);
        asks("suite(2, 0)", 4);
        asks("suite(3, 0)", 2);
    }

    @Says("NONE: no machine lies there, it is GREAT")
    void p23_suite_noMachineOrGreat() {
        begin(HOUSE);
        for (String p : new String[] {"4", "5", "6", "7", "-1", "16", "MIN", "MAX"}) {
            asks("suite(" + p + ", 0)", -1);
        }
        asks("suite(15, 0)", 2);
        begin(wide(0), lay(1, 3, 2, "01.", "02-", "03-", "04-", "05-", "06-", "01-"), "take(1, 0, 1, 1); act(1, 0, 1, 1)", ring(2, 3, 14));
        asks("suite(0, 0)", -1);
        // as the other one, but with 13 pairs
        asks("suite(1, 0)", 8);
        asks("suite(2, 0)", 2);
    }

    @Says("L has more than 6 STATES")
    void p23_suite_moreThan6States() {
        begin(chain(0, 5, 1), chain(1, 6, 1), ring(2, 0, 6), "say(2, 0, 1)", ring(3, 0, 7), "say(3, 0, 1)", pairs(4, 6), pairs(5, 7));
        asks("suite(0, 0)", 11);
        asks("suite(1, 0)", -1);
        asks("suite(1, 2)", -1);
        asks("suite(2, 0)", 11);
        asks("suite(3, 0)", -1);
        asks("suite(4, 0)", 12);
        asks("suite(5, 0)", -1);
    }

    @Says("or k above 3")
    void p23_suite_kAbove3() {
        begin("machine(0, 0, 1, 3); machine(1, 0, 1, 4)", lay(2, 2, 4, "0----", "0...."), "take(2, 0, 3, 1)", lay(3, 2, 4, "0--0-"));
        asks("suite(0, 0)", 4);
        asks("suite(1, 0)", -1);
        asks("suite(2, 0)", -1);
        asks("suite(3, 0)", 4);
    }

    @Says("or h is not 0 to 2.")
    void p23_suite_h() {
        begin(HOUSE);
        for (String h : new String[] {"-1", "3", "MIN", "MAX"}) {
            asks("suite(0, " + h + ")", -1);
            asks("suite(15, " + h + ")", -1);
        }
        asks("suite(15, 0)", 2);
        asks("suite(15, 2)", 4);
    }

    // ---- promise 24: passes

    @Says("ASK: the first word, in ORDER, of the SUITE of the machine at p, for h, to which the machine at q answers unlike (ANSWERS that are unlike, or one ANSWER and NO ANSWER)")
    void p24_passes_first() {
        begin("machine(0, 1, 1, 1)", lay(1, 1, 1, "01", "10"), lay(2, 1, 1, "10"), lay(3, 2, 1, "0-"), lay(4, 0, 2, "010", "111"), "machine(5, 0, 1, 2)");
        asks("passes(0, 1, 0)", School.number("'0'"));
        asks("passes(0, 2, 0)", 1);
        asks("passes(0, 3, 0)", School.number("'0'"));
        asks("passes(3, 0, 0)", School.number("'0'"));
        // 0, 00, 01 and more are unlike: 0 comes first; by 0 at q all is alike up to SIGNS from k on
        asks("passes(5, 4, 2)", School.number("'0'"));
        asks("passes(0, 5, 2)", 0);
        asks("passes(5, 0, 2)", School.number("'1'"));
        // unlike by 1 and 00: the shorter word comes first
        begin("machine(0, 1, 1, 2)", lay(1, 1, 2, "012", "133", "222", "333"), lay(2, 1, 2, "012", "033", "222", "333"), lay(3, 1, 2, "012", "034", "050", "100", "200", "300"));
        asks("passes(0, 1, 1)", School.number("'0'"));
        asks("passes(0, 2, 1)", School.number("'1'"));
        asks("passes(0, 3, 1)", School.number("'00'"));
        asks("passes(0, 3, 0)", 0);
    }

    @Says("0 if there is none.")
    void p24_passes_none() {
        begin("machine(0, 0, 1, 1)", chain(1, 1, 1), chain(2, 2, 1), chain(3, 3, 1), chain(4, 4, 1), pairs(5, 15), wide(6));
        asks("passes(0, 0, 0)", 0);
        asks("passes(0, 1, 0)", School.number("'0'"));
        asks("passes(0, 2, 0)", 0);
        asks("passes(0, 2, 1)", School.number("'00'"));
        asks("passes(0, 3, 1)", 0);
        asks("passes(0, 3, 2)", School.number("'000'"));
        asks("passes(0, 4, 2)", 0);
        asks("passes(0, 5, 2)", 0);
        asks("passes(0, 6, 2)", 0);
        asks("passes(1, 1, 2)", 0);
    }

    @Says("NONE: suite(p, h) would be NONE, or no machine lies at q.")
    void p24_passes_noSuite() {
        begin(HOUSE, chain(8, 5, 1), chain(9, 6, 1), "machine(10, 0, 1, 4)", pairs(11, 15));
        for (String none : new String[] {"4", "5", "6", "7", "-1", "16", "MIN", "MAX"}) {
            asks("passes(" + none + ", 15, 0)", -1);
            asks("passes(15, " + none + ", 0)", -1);
        }
        for (String h : new String[] {"-1", "3", "MIN", "MAX"}) {
            asks("passes(15, 15, " + h + ")", -1);
        }
        asks("passes(15, 15, 0)", 0);
        asks("passes(15, 15, 2)", 0);
        asks("passes(8, 9, 0)", School.number("'0^5'"));
        asks("passes(9, 8, 0)", -1);
        asks("passes(10, 15, 0)", -1);
        asks("passes(15, 10, 0)", 0);
        asks("passes(11, 15, 0)", -1);
        asks("passes(15, 11, 0)", 0);
    }

    public static void main(String[] args) {
        new EdgesMakingTest().runAll(args);
    }
}
