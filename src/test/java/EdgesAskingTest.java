/** The boundary cases of promises 11 to 20: what can be asked of machines and TEACHERS. */
public final class EdgesAskingTest extends Edges {
    /** What no machine lies at: the TEACHERS and an empty PLACE of the HOUSE, and what is no PLACE. */
    private static final String[] NO_MACHINES = {"4", "5", "6", "7", "-1", "16", "MIN", "MAX"};
    /** How many words there are: one of 0 SIGNS, 4 of one, up to those of 30. */
    private static final long ALL_WORDS = ((1L << 62) - 1) / 3;
    /** A machine by which each word has ANSWER 5. */
    private static final String ALL_5 = "machine(0, 1, 1, 4); say(0, 0, 5)";

    private void asksNone(String ask, long none) {
        for (String p : NO_MACHINES) {
            asks(with(ask, p), none);
        }
    }

    // ---- promise 11: kind

    @Says("ASK: what lies at p: 0 to 3 a machine of that KIND, 4 to 6 a TEACHER (4 and its KIND)")
    void p11_kind_whatLies() {
        begin(HOUSE);
        for (int p = 0; p <= 6; p++) {
            asks("kind(" + p + ")", p);
        }
        asks("kind(15)", 0);
    }

    @Says("NONE: nothing, or p is no PLACE.")
    void p11_kind_none() {
        begin(HOUSE);
        for (int p = 7; p < 15; p++) {
            asks("kind(" + p + ")", -1);
        }
        for (String p : NO_PLACES) {
            asks("kind(" + p + ")", -1);
        }
    }

    // ---- promise 12: size

    @Says("ASK: of the machine at p n (what = 0) or k (1)")
    void p12_size_machine() {
        begin(HOUSE);
        int[][] sizes = {{2, 2}, {3, 2}, {3, 3}, {2, 2}};
        for (int p = 0; p < 4; p++) {
            asks("size(" + p + ", 0)", sizes[p][0]);
            asks("size(" + p + ", 1)", sizes[p][1]);
        }
        begin("machine(0, 0, 14, 1); machine(15, 3, 1, 4)");
        asks("size(0, 0)", 14);
        asks("size(0, 1)", 1);
        asks("size(15, 0)", 1);
        asks("size(15, 1)", 4);
    }

    @Says("of the TEACHER at p its LIMIT (0) or how many FORGOTTEN words it has (1; 0, if it is not FORGETFUL).")
    void p12_size_teacher() {
        begin(HOUSE);
        asks("size(4, 0)", 30);
        asks("size(5, 0)", 3);
        asks("size(6, 0)", 5);
        asks("size(4, 1)", 0);
        asks("size(5, 1)", 0);
        asks("size(6, 1)", 2);
        begin("machine(0, 0, 1, 1); teacher(1, 2, 0, 0); forget(1, 1); forget(1, 4); forget(1, 5); forget(1, 6); forget(1, 7)",
            "teacher(2, 2, 0, 30); teacher(3, 1, 0, 0); teacher(4, 1, 0, 30)");
        asks("size(1, 0)", 0);
        asks("size(1, 1)", 5);
        asks("size(2, 0)", 30);
        asks("size(2, 1)", 0);
        asks("size(3, 0)", 0);
        asks("size(4, 0)", 30);
        done("forget(1, 16)", 6, "forget(1, 17) = 7; forget(1, 18) = 8; size(1, 1) = 8; teacher(1, 1, 0, 4) = 0; size(1, 1) = 0; size(1, 0) = 4; teacher(1, 0, 0, 4) = 0; size(1, 1) = 0; size(1, 0) = 30");
    }

    @Says("NONE: otherwise.")
    void p12_size_none() {
        begin(HOUSE);
        for (String what : new String[] {"-1", "2", "MIN", "MAX"}) {
            asks("size(0, " + what + ")", -1);
            asks("size(3, " + what + ")", -1);
            asks("size(4, " + what + ")", -1);
            asks("size(6, " + what + ")", -1);
        }
        for (String p : new String[] {"7", "14", "-1", "16", "MIN", "MAX"}) {
            asks("size(" + p + ", 0)", -1);
            asks("size(" + p + ", 1)", -1);
        }
    }

    // ---- promise 13: leads

    @Says("ASK: the TAKE of STATE s by SIGN a: the STATE, or -1: MISSING")
    void p13_leads_take() {
        begin(HOUSE);
        asks("leads(1, 0, 0)", 1);
        asks("leads(1, 2, 1)", 1);
        asks("leads(1, 1, 1)", 0);
        asks("leads(2, 0, 0)", 1);
        asks("leads(2, 0, 1)", -1);
        asks("leads(2, 0, 2)", 2);
        asks("leads(3, 1, 0)", -1);
        begin("machine(0, 2, 14, 4); take(0, 13, 3, 13)");
        asks("leads(0, 13, 3)", 13);
        asks("leads(0, 13, 2)", 0);
        asks("leads(0, 12, 3)", 0);
    }

    @Says("-2: the ROW has none for a, or is not there")
    void p13_leads_noTake() {
        begin(HOUSE);
        asks("leads(2, 1, 1)", -1);
        asks("leads(2, 1, 2)", -2);
        asks("leads(2, 2, 0)", -2);
        asks("leads(2, 2, -1)", -2);
        asks("leads(3, 1, 1)", -2);
        for (String a : new String[] {"-1", "2", "3", "4", "MIN", "MAX"}) {
            asks("leads(0, 0, " + a + ")", -2);
        }
        begin("machine(0, 3, 2, 4); row(0, 0, 0)");
        asks("leads(0, 0, 0)", -2);
        asks("leads(0, 1, 3)", 0);
        asks("leads(0, 1, 4)", -2);
    }

    @Says("-3: no machine lies at p, or it has no such STATE.")
    void p13_leads_noState() {
        begin(HOUSE);
        asksNone("leads(%, 0, 0)", -3);
        asksNone("leads(%, -1, -1)", -3);
        for (String s : new String[] {"-1", "3", "MIN", "MAX"}) {
            asks("leads(2, " + s + ", 0)", -3);
            asks("leads(1, " + s + ", 9)", -3);
        }
        asks("leads(2, 0, 0)", 1);
        asks("leads(1, 2, 0)", 0);
        begin("machine(0, 0, 14, 1)");
        asks("leads(0, 13, 0)", 0);
        asks("leads(0, 14, 0)", -3);
    }

    // ---- promise 14: what

    @Says("ASK: the ACT of the TAKE of STATE s by SIGN a.")
    void p14_what_act() {
        begin(HOUSE);
        asks("what(3, 0, 0)", 1);
        asks("what(3, 0, 1)", 2);
        asks("what(3, 1, 0)", 3);
        begin("machine(0, 3, 14, 4); act(0, 13, 3, 3); act(0, 0, 1, 2); take(0, 0, 1, -1)");
        asks("what(0, 13, 3)", 3);
        asks("what(0, 13, 2)", 0);
        asks("what(0, 0, 1)", 2);
    }

    @Says("NONE: there is no such TAKE")
    void p14_what_noTake() {
        begin(HOUSE);
        for (String a : new String[] {"-1", "2", "MIN", "MAX"}) {
            asks("what(3, 0, " + a + ")", -1);
        }
        asks("what(3, 1, 1)", -1);
        for (String s : new String[] {"-1", "2", "MIN", "MAX"}) {
            asks("what(3, " + s + ", 0)", -1);
        }
        begin("machine(0, 3, 2, 2); cut(0, 0); row(0, 1, 0)");
        asks("what(0, 0, 0)", -1);
        asks("what(0, 1, 0)", -1);
    }

    @Says("or no COUNTED machine lies at p.")
    void p14_what_noCounted() {
        begin(HOUSE);
        asksNone("what(%, 0, 0)", -1);
        for (int p = 0; p < 3; p++) {
            asks("what(" + p + ", 0, 0)", -1);
        }
    }

    // ---- promise 15: says

    @Says("ASK: the ANSWER of STATE s.")
    void p15_says_answer() {
        begin(HOUSE);
        asks("says(0, 0)", 0);
        asks("says(0, 1)", 1);
        asks("says(1, 0)", 7);
        asks("says(1, 2)", 5);
        asks("says(2, 2)", 6);
        asks("says(3, 1)", 2);
    }

    @Says("NONE: no machine lies at p, or it has no such STATE.")
    void p15_says_none() {
        begin(HOUSE);
        asksNone("says(%, 0)", -1);
        for (String s : new String[] {"-1", "3", "MIN", "MAX"}) {
            asks("says(1, " + s + ")", -1);
            asks("says(2, " + s + ")", -1);
        }
        asks("says(0, 2)", -1);
        begin("machine(0, 0, 14, 1)");
        asks("says(0, 13)", 0);
        asks("says(0, 14)", -1);
    }

    // ---- promise 16: answer

    @Says("ASK: of the machine at p the ANSWER of a word, 8: NO ANSWER")
    void p16_answer_machine() {
        begin(HOUSE);
        asks("answer(0, '')", 0);
        asks("answer(0, '0')", 1);
        asks("answer(0, '0 1^29')", 1);
        asks("answer(0, '0^30')", 0);
        asks("answer(0, '2')", 8);
        asks("answer(0, '0^29 2')", 8);
        asks("answer(1, '')", 7);
        asks("answer(1, '1')", 5);
        asks("answer(1, '01')", 7);
        asks("answer(2, '0')", 5);
        asks("answer(2, '1')", 8);
        asks("answer(2, '2')", 6);
        asks("answer(2, '3')", 8);
        asks("answer(2, '02')", 8);
        asks("answer(2, '20')", 8);
        asks("answer(3, '000')", 3);
        asks("answer(3, '0000')", 8);
        asks("answer(3, '1')", 8);
        asks("answer(3, '01')", 2);
    }

    @Says("of the TEACHER at p what it answers: 9, if the word is FORGOTTEN, else what the SECRET does (8: NO ANSWER).")
    void p16_answer_teacher() {
        begin(HOUSE);
        asks("answer(4, '')", 7);
        asks("answer(4, '2')", 8);
        asks("answer(4, '0^30')", 7);
        asks("answer(5, '000')", 1);
        asks("answer(5, '0^30')", 0);
        asks("answer(5, '0^27')", 1);
        asks("answer(6, '')", 4);
        asks("answer(6, '0')", 9);
        asks("answer(6, '00')", 6);
        asks("answer(6, '2')", 6);
        asks("answer(6, '22')", 9);
        asks("answer(6, '23')", 8);
        begin(HOUSE, "forget(6, ''); forget(6, '3^30'); say(1, 0, 0); lift(2)");
        asks("answer(6, '')", 9);
        asks("answer(6, '3^30')", 9);
        asks("answer(6, '3^29')", 8);
        asks("answer(4, '')", 7);
        asks("answer(6, '2')", 6);
    }

    @Says("NONE: nothing lies there, p is no PLACE")
    void p16_answer_nothing() {
        begin(HOUSE);
        for (String p : new String[] {"7", "14", "-1", "16", "MIN", "MAX"}) {
            asks("answer(" + p + ", '')", -1);
            asks("answer(" + p + ", 0)", -1);
        }
        asks("answer(15, '')", 0);
    }

    @Says("or it is no WORD.")
    void p16_answer_noWord() {
        begin(HOUSE);
        for (String word : NO_WORDS) {
            for (int p = 0; p <= 6; p++) {
                asks("answer(" + p + ", " + word + ")", -1);
            }
        }
    }

    // ---- promise 17: count

    @Says("ASK: how many words of n SIGNS have the ANSWER v by the machine at p.")
    void p17_count_words() {
        begin(ALL_5);
        for (int n = 0; n <= 30; n++) {
            asks("count(0, 5, " + n + ")", 1L << 2 * n);
        }
        begin(HOUSE);
        asks("count(0, 0, 0)", 1);
        asks("count(0, 1, 0)", 0);
        asks("count(0, 0, 30)", 1L << 29);
        asks("count(0, 1, 30)", 1L << 29);
        asks("count(0, 7, 30)", 0);
        asks("count(1, 7, 0)", 1);
        asks("count(2, 6, 1)", 1);
        asks("count(2, 6, 2)", 1);
        asks("count(2, 6, 3)", 0);
        asks("count(3, 3, 3)", 1);
        asks("count(3, 3, 4)", 0);
        asks("count(3, 2, 4)", 1);
        asks("count(3, 2, 5)", 0);
        begin(pairs(0, 15), wide(1), "say(0, 11, 4)");
        asks("count(0, 4, 10)", 0);
        asks("count(0, 4, 11)", 1);
        asks("count(0, 4, 14)", 1);
        asks("count(0, 4, 15)", 0);
        asks("count(1, 0, 30)", 2);
    }

    @Says("NONE: no machine lies there")
    void p17_count_noMachine() {
        begin(HOUSE);
        asksNone("count(%, 0, 0)", -1);
        asks("count(15, 0, 0)", 1);
    }

    @Says("v is not 0 to 7")
    void p17_count_v() {
        begin(HOUSE);
        for (String v : new String[] {"-1", "8", "9", "MIN", "MAX"}) {
            asks("count(1, " + v + ", 0)", -1);
            asks("count(0, " + v + ", 1)", -1);
        }
        asks("count(1, 7, 0)", 1);
        asks("count(1, 0, 0)", 0);
        asks("count(0, 7, 0)", 0);
    }

    @Says("or n not 0 to 30.")
    void p17_count_n() {
        begin(HOUSE);
        for (String n : new String[] {"-1", "31", "MIN", "MAX"}) {
            asks("count(0, 0, " + n + ")", -1);
        }
        asks("count(0, 0, 0)", 1);
        asks("count(15, 0, 30)", 1);
    }

    // ---- promise 18: word

    @Says("ASK: number i (from 0 on, in ORDER) of the words that have the ANSWER v by the machine at p.")
    void p18_word_inOrder() {
        begin(ALL_5);
        String[] first = {"''", "'0'", "'1'", "'2'", "'3'", "'00'", "'01'", "'02'", "'03'", "'10'", "'11'"};
        for (int i = 0; i < first.length; i++) {
            asks("word(0, 5, " + i + ")", School.number(first[i]));
        }
        asks("word(0, 5, 20)", School.number("'33'"));
        asks("word(0, 5, 21)", School.number("'000'"));
        begin(HOUSE);
        String[] odd = {"'0'", "'01'", "'10'", "'000'", "'011'", "'101'", "'110'", "'0001'"};
        for (int i = 0; i < odd.length; i++) {
            asks("word(0, 1, " + i + ")", School.number(odd[i]));
        }
        String[] counted = {"'01'", "'001'", "'0001'"};
        for (int i = 0; i < counted.length; i++) {
            asks("word(3, 2, " + i + ")", School.number(counted[i]));
        }
        asks("word(3, 2, 3)", -1);
    }

    @Says("NONE: no machine lies there, v is not 0 to 7")
    void p18_word_noMachineOrAnswer() {
        begin(HOUSE);
        asksNone("word(%, 0, 0)", -1);
        for (String v : new String[] {"-1", "8", "9", "MIN", "MAX"}) {
            asks("word(1, " + v + ", 0)", -1);
            asks("word(0, " + v + ", 0)", -1);
        }
        asks("word(1, 7, 0)", 1);
        asks("word(0, 0, 0)", 1);
        asks("word(15, 0, 0)", 1);
    }

    @Says("i is below 0")
    void p18_word_below0() {
        begin(HOUSE);
        asks("word(1, 7, -1)", -1);
        asks("word(1, 7, LMIN)", -1);
        asks("word(1, 7, MIN)", -1);
        asks("word(1, 7, 0)", 1);
    }

    @Says("or there are not so many.")
    void p18_word_notSoMany() {
        begin(ALL_5);
        asks("word(0, 5, " + (ALL_WORDS - 1) + ")", School.number("'3^30'"));
        asks("word(0, 5, " + (ALL_WORDS - 2) + ")", School.number("'3^29 2'"));
        asks("word(0, 5, " + ALL_WORDS + ")", -1);
        asks("word(0, 5, LMAX)", -1);
        asks("word(0, 4, 0)", -1);
        // the first of 30 SIGNS, and the last of 29
        asks("word(0, 5, " + (ALL_WORDS - (1L << 60)) + ")", 1L << 60);
        asks("word(0, 5, " + (ALL_WORDS - (1L << 60) - 1) + ")", (1L << 59) - 1);
        begin(ring(0, 0, 14), "say(0, 2, 1)", ring(1, 0, 14), "say(1, 3, 1)");
        asks("word(0, 1, 1)", School.number("'0^16'"));
        asks("word(0, 1, 2)", School.number("'0^30'"));
        asks("word(0, 1, 3)", -1);
        asks("word(1, 1, 1)", School.number("'0^17'"));
        asks("word(1, 1, 2)", -1);
        begin(pairs(0, 15));
        asks("word(0, 0, 14)", School.number("'0^14'"));
        asks("word(0, 0, 15)", -1);
        begin("machine(0, 2, 1, 1); cut(0, 0)");
        asks("word(0, 0, 0)", 1);
        asks("word(0, 0, 1)", -1);
    }

    // ---- promise 19: place

    @Says("ASK: how many words ahead of this one (in ORDER) have the same ANSWER by the machine at p.")
    void p19_place_wordsAhead() {
        begin(ALL_5);
        asks("place(0, '')", 0);
        asks("place(0, '0')", 1);
        asks("place(0, '3')", 4);
        asks("place(0, '00')", 5);
        asks("place(0, '10')", 9);
        asks("place(0, '33')", 20);
        asks("place(0, '000')", 21);
        asks("place(0, '3^30')", ALL_WORDS - 1);
        asks("place(0, '0^30')", ALL_WORDS - (1L << 60));
        asks("place(0, '3^29')", ALL_WORDS - (1L << 60) - 1);
        begin(HOUSE);
        asks("place(0, '')", 0);
        asks("place(0, '0')", 0);
        asks("place(0, '1')", 1);
        asks("place(0, '01')", 1);
        asks("place(0, '10')", 2);
        asks("place(2, '2')", 0);
        asks("place(2, '00')", 1);
        asks("place(3, '0001')", 2);
        begin(pairs(0, 15), ring(1, 0, 14), "say(1, 2, 1)");
        asks("place(0, '0^14')", 14);
        asks("place(1, '0^30')", 2);
    }

    @Says("NONE: no machine lies there")
    void p19_place_noMachine() {
        begin(HOUSE);
        asksNone("place(%, '')", -1);
        asks("place(15, '')", 0);
    }

    @Says("it is no WORD")
    void p19_place_noWord() {
        begin(ALL_5);
        for (String word : NO_WORDS) {
            asks("place(0, " + word + ")", -1);
        }
    }

    @Says("or it has NO ANSWER.")
    void p19_place_noAnswer() {
        begin(HOUSE);
        asks("place(0, '2')", -1);
        asks("place(0, '0^29 3')", -1);
        asks("place(2, '1')", -1);
        asks("place(2, '02')", -1);
        asks("place(2, '20')", -1);
        asks("place(3, '1')", -1);
        asks("place(3, '0000')", -1);
        asks("place(3, '000')", 3);
    }

    // ---- promise 20: differ

    @Says({"ASK: 0, if the machines at a and b are ALIKE",
        "Two machines are ALIKE if each row of SIGNS, of whatever length, has the same ANSWER by both, or NO ANSWER by both."})
    void p20_differ_alike() {
        begin(lay(0, 1, 2, "710", "201"), lay(1, 2, 4, "710--", "201--"), lay(2, 3, 3, "712-", "223-", "730-", "201-", "5000"),
            ring(3, 0, 13), ring(4, 2, 14), "machine(5, 0, 1, 1); machine(6, 0, 1, 2)", ring(7, 3, 14));
        for (int p = 0; p < 8; p++) {
            asks(with("differ(%, %)", p, p), 0);
        }
        asks("differ(0, 1)", 0);
        asks("differ(1, 0)", 0);
        asks("differ(0, 2)", 0);
        asks("differ(2, 1)", 0);
        asks("differ(3, 4)", 0);
        asks("differ(7, 5)", 0);
        asks("differ(5, 6)", School.number("'1'"));
        begin(pairs(0, 14), lay(1, 2, 1, "01", "02", "03", "04", "05", "06", "07", "08", "09", "0a", "0b", "0c", "0d", "0-"));
        asks("differ(0, 1)", 0);
        asks("differ(1, 0)", 0);
    }

    @Says("else the first row of SIGNS, in ORDER, that has unlike ANSWERS by them, or an ANSWER by one of them alone")
    void p20_differ_first() {
        begin(lay(0, 1, 2, "710", "201"), lay(1, 2, 3, "710-", "2010"), lay(2, 2, 2, "710", "20-"), lay(3, 1, 2, "610", "201"), lay(4, 1, 2, "710", "301"));
        asks("differ(0, 1)", School.number("'02'"));
        asks("differ(1, 0)", School.number("'02'"));
        asks("differ(0, 2)", School.number("'01'"));
        asks("differ(2, 0)", School.number("'01'"));
        asks("differ(1, 2)", School.number("'01'"));
        asks("differ(0, 3)", 1);
        asks("differ(0, 4)", School.number("'0'"));
        // unlike by 1 and by 00: the shorter one comes first; by 01 and by 10: the lesser one does
        begin(lay(0, 2, 2, "012", "03.", "0..", "0.."), lay(1, 2, 2, "012", "03.", "1..", "1.."));
        asks("differ(0, 1)", School.number("'1'"));
        begin(lay(0, 2, 2, "012", "0-3", "03-", "0--"), lay(1, 2, 2, "012", "0-3", "03-", "1--"));
        asks("differ(0, 1)", School.number("'01'"));
    }

    @Says("(it is a WORD always).")
    void p20_differ_longest() {
        begin(ring(0, 2, 13), ring(1, 2, 14), "say(0, 12, 1); say(1, 12, 1)");
        asks("differ(0, 1)", School.number("'0^25'"));
        asks("differ(1, 0)", School.number("'0^25'"));
        // 14 pairs, behind which a row has NO ANSWER, and a chain of 14 STATES that goes on
        begin(pairs(0, 14), ring(1, 2, 14));
        asks("differ(0, 1)", School.number("'0^14'"));
    }

    @Says("NONE: at one of them no machine lies")
    void p20_differ_noMachine() {
        begin(HOUSE);
        asksNone("differ(%, 0)", -1);
        asksNone("differ(0, %)", -1);
        asks("differ(0, 15)", School.number("'0'"));
        asks("differ(15, 0)", School.number("'0'"));
    }

    @Says({"or it is GREAT.", "A COUNTED machine is GREAT if rows of SIGNS that have an ANSWER end at more than 14 pairs of a STATE and a COUNT."})
    void p20_differ_great() {
        begin(pairs(0, 14), pairs(1, 15), wide(2), ring(3, 0, 14), pairs(4, 13));
        asks("differ(0, 0)", 0);
        asks("differ(0, 3)", School.number("'0^14'"));
        asks("differ(4, 0)", School.number("'0^13'"));
        for (int great = 1; great <= 2; great++) {
            asks(with("differ(%, %)", great, great), -1);
            asks(with("differ(%, 0)", great), -1);
            asks(with("differ(0, %)", great), -1);
            asks(with("differ(%, 3)", great), -1);
            asks(with("differ(3, %)", great), -1);
        }
    }

    public static void main(String[] args) {
        new EdgesAskingTest().runAll(args);
    }
}
