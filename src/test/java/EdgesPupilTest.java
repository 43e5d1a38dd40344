/** The boundary cases of promises 27 to 35: the pupil. */
public final class EdgesPupilTest extends Edges {
    private static final String ORDER = "Refusals are told in the order in which they are looked for.";
    /** At 0: YES is a number of SIGNS 0 that is 3, 7, 11, ..; SIGN 1 changes nothing. */
    private static final String FOURS = lay(0, 0, 2, "010", "021", "032", "103");
    /** At 0: 0 leads on twice, 1 has an ANSWER behind that alone. */
    private static final String PATH = lay(0, 2, 2, "51-", "52-", "5-2");

    private static String taught(int kind, int limit) {
        return with("teacher(1, %, 0, %); learn(1)", kind, limit);
    }

    // ---- promise 27: learn

    @Says({"ACT: the pupil begins anew, with the TEACHER at p", "AHEAD and BEHIND have the empty word alone; it CLOSES, and the first GUESS is made. told() is 0. Answers n of the GUESS."})
    void p27_learn_anew() {
        begin(FOURS, "teacher(1, 0, 0, 0)");
        String fresh = "ahead(0) = 1; ahead(1) = -1; behind(0) = 1; behind(1) = -1; told() = 0; guesses() = 1";
        done("learn(1)", 1, fresh, "guess(2) = 1", shows(2, 0, 2, "000"));
        begin(HOUSE);
        done("learn(5)", 1, fresh, "guess(8) = 1", shows(8, 0, 2, "000"));
        done("learn(4)", 3, "ahead(0) = 1; ahead(1) = 4; ahead(2) = 5; ahead(3) = -1; behind(0) = 1; behind(1) = -1; told() = 0; guesses() = 1; guess(8) = 3", shows(8, 1, 2, "712", "320", "501"));
    }

    @Says({"ACT: the pupil begins anew", "AHEAD and BEHIND have the empty word alone; it CLOSES"})
    void p27_learn_afterAnother() {
        // what an earlier pupil had found out is gone: 00 alone is YES by the one teacher, each STATE has its ANSWER by the other
        String two = lay(0, 0, 1, "01", "02", "12") + "; teacher(1, 0, 0, 0); " + lay(2, 1, 2, "712", "320", "501") + "; teacher(3, 0, 2, 0)";
        String first = "ahead(0) = ''; ahead(1) = -1; behind(1) = -1; told() = 0; guesses() = 1; exam() = 3; ahead(2) = '00'; behind(1) = '0'; exam() = 0";
        begin(two);
        done("learn(1)", 1, first);
        begin(two, "learn(1); exam()");
        done("learn(1)", 1, first);
        begin(two, "learn(3)");
        done("learn(1)", 1, first);
        begin(two, "learn(1); exam(); exam()");
        done("learn(3)", 3, "ahead(1) = '0'; ahead(2) = '1'; ahead(3) = -1; behind(1) = -1; exam() = 0; guess(8) = 3; differ(2, 8) = 0");
    }

    @Says("(and keeps to it, whatever happens to that PLACE)")
    void p27_learn_keepsToTheTeacher() {
        begin(FOURS, taught(1, 3));
        for (String act : new String[] {"lift(1)", "machine(1, 1, 1, 1)", "teacher(1, 1, 0, 2)", "draw(0, 5)", "lift(0)", "say(0, 3, 0)", "guess(1)"}) {
            begin(FOURS, taught(1, 3), act);
            done("exam()", 2, "told() = '000'; cell(0, 0, 1) = 1; exam() = 4; exam() = 0");
        }
        begin(FOURS, taught(1, 2), "teacher(1, 1, 0, 3)");
        done("exam()", 0, "told() = 0");
        done("learn(1)", 1, "exam() = 2");
    }

    @Says("PLACE p")
    void p27_learn_place() {
        begin(HOUSE, "teacher(15, 0, 1, 0); teacher(0, 0, 1, 0)");
        placeRefused("learn(%)");
        done("learn(0)", 3);
        done("learn(15)", 3);
    }

    @Says("MISSING: nothing lies there")
    void p27_learn_nothing() {
        begin(HOUSE);
        for (int p = 7; p < 15; p++) {
            refused("learn(" + p + ")", MISSING);
        }
        begin();
        refused("learn(0)", MISSING);
    }

    @Says("KIND: no TEACHER does, or it is FORGETFUL.")
    void p27_learn_kind() {
        begin(HOUSE);
        for (int p : new int[] {0, 1, 2, 3, 6, 15}) {
            refused("learn(" + p + ")", KIND);
        }
        done("learn(4)", 3);
        done("learn(5)", 1);
        begin("machine(0, 0, 1, 1); teacher(1, 2, 0, 0)");
        refused("learn(0)", KIND);
        refused("learn(1)", KIND);
    }

    // ---- promise 28: exam

    @Says({"ACT: the teacher is asked whether the GUESS is right. It looks for the first row of SIGNS, in ORDER, to which it answers otherwise than the GUESS does.",
        "Else the pupil LEARNS this word; told() is it; answers n of the new GUESS."})
    void p28_exam_firstRow() {
        begin(FOURS, taught(0, 0));
        done("exam()", 2, "told() = '000'; behind(1) = '00'; guesses() = 2; exam() = 4; told() = '000'; behind(2) = '0'; guesses() = 3; exam() = 0; told() = '000'; guesses() = 3");
        // 10 and 000 are answered otherwise: 10 comes first
        begin(lay(0, 0, 2, "012", "033", "045", "044", "155", "055"), taught(0, 0));
        done("exam()", 3, "told() = '10'; behind(1) = '0'");
        begin(PATH, taught(0, 0));
        done("exam()", 2, "told() = '000'; behind(1) = '00'; guess(2) = 2", shows(2, 2, 2, "51-", "51-"), "exam() = 3; told() = '000'; behind(2) = '0'; guess(2) = 3",
            shows(2, 2, 2, "51-", "52-", "5-2"), "exam() = 0");
    }

    @Says("If there is none, or it has more SIGNS than the LIMIT: answers 0, and nothing else happens.")
    void p28_exam_limit() {
        for (int limit = 0; limit <= 4; limit++) {
            begin(FOURS, taught(1, limit));
            if (limit < 3) {
                changes("exam()", 0);
            } else {
                done("exam()", 2, "told() = '000'; exam() = 4; exam() = 0; told() = '000'; guesses() = 3");
            }
        }
        // it is right at once
        begin("machine(0, 0, 1, 1)", taught(0, 0));
        changes("exam()", 0);
        begin(HOUSE, "exam()");
        changes("exam()", 0);
        // a row of 13 SIGNS is the first one, and an EXACT TEACHER has no other LIMIT than 30
        String long13 = ring(0, 0, 14) + "; say(0, 13, 1)";
        begin(long13, taught(1, 12));
        changes("exam()", 0);
        begin(long13, taught(1, 13));
        done("exam()", 2, "told() = '0^13'");
        begin(long13, taught(0, 12));
        done("exam()", 2, "told() = '0^13'");
    }

    @Says("MISSING: there is no pupil.")
    void p28_exam_noPupil() {
        begin(FOURS, "teacher(1, 0, 0, 0)");
        refused("exam()", MISSING);
        done("learn(1)", 1, "exam() = 2");
    }

    // ---- promise 29: tell

    @Says("ACT: the pupil LEARNS a word; told() is it. Answers n of the new GUESS.")
    void p29_tell_learns() {
        begin(FOURS, taught(1, 0));
        done("tell('000')", 2, "told() = '000'; behind(1) = '00'; guesses() = 2");
        // longer than the LIMIT, and as long as can be
        done("tell('0^7')", 2, "told() = '0^7'; behind(1) = '0^6'; guesses() = 2; tell('0^7') = 4; behind(2) = '0^5'; guesses() = 3; told() = '0^7'; tell('0^7') = -1; status() = 6");
        done("tell('1^27 000')", 2, "told() = '1^27 000'; behind(1) = '00'; ahead(1) = '0'");
        done("tell('000 1^27')", 2, "told() = '000 1^27'; behind(1) = '00 1^27'; ahead(1) = '0'");
    }

    @Says("MISSING: there is no pupil;")
    void p29_tell_noPupil() {
        begin(FOURS, "teacher(1, 0, 0, 0)");
        refused("tell('000')", MISSING);
        refused("tell('')", MISSING);
        refused("tell(0)", MISSING);
    }

    @Says("BEYOND: it is no WORD;")
    void p29_tell_noWord() {
        begin(FOURS, taught(0, 0));
        for (String word : NO_WORDS) {
            refused("tell(" + word + ")", BEYOND);
        }
        begin(HOUSE);
        for (String word : NO_WORDS) {
            refused("tell(" + word + ")", BEYOND);
        }
        done("tell('000')", 4);
        done("tell('1^27 000')", 4);
    }

    @Says("ALIKE: teacher and GUESS answer it alike.")
    void p29_tell_alike() {
        begin(HOUSE);
        refused("tell('')", ALIKE);
        refused("tell('0')", ALIKE);
        refused("tell('00')", ALIKE);
        refused("tell('0^5')", ALIKE);
        refused("tell('2')", ALIKE);
        refused("tell('3^30')", ALIKE);
        done("tell('0001')", 4);
        // NO ANSWER is 8: by the teacher alone it is unlike, by both alike
        begin(PATH, taught(0, 0));
        refused("tell('00')", ALIKE);
        refused("tell('1')", ALIKE);
        refused("tell('01')", ALIKE);
        done("tell('000')", 2);
        done("tell('001')", 2, "behind(1) = '01'");
    }

    @Says(ORDER)
    void p29_tell_order() {
        begin();
        refused("tell(0)", MISSING);
        refused("tell(-1)", MISSING);
        refused("tell(2)", MISSING);
        refused("tell('')", MISSING);
    }

    // ---- promise 30: guess

    @Says("ACT: a machine as the GUESS lies at to. Answers its n.")
    void p30_guess_lies() {
        begin(HOUSE);
        for (int p : new int[] {0, 1, 4, 5, 6, 7, 8, 15}) {
            done("guess(" + p + ")", 2, shows(p, 0, 2, "010", "001"), "exam() = 4; size(" + p + ", 0) = 2; say(" + p + ", 0, 1) = 0; guesses() = 3; exam() = 0");
        }
        changes("guess(8)", 2, "kind(8) = 0; size(8, 0) = 2; size(8, 1) = 2; says(8, 0) = 0; says(8, 1) = 0; leads(8, 0, 0) = 1; leads(8, 0, 1) = 0; leads(8, 1, 0) = 0; leads(8, 1, 1) = 1; fits(8) = 0");
        // the GUESS stays as it is when the machine is changed
        begin(FOURS, taught(0, 0), "guess(2); say(2, 0, 1); take(2, 0, 0, 0)");
        done("guess(3)", 1, shows(3, 0, 2, "000"));
        begin(ring(0, 1, 14), "say(0, 13, 7); teacher(1, 0, 0, 0); learn(1); exam(); exam(); exam(); exam(); exam(); exam(); exam(); exam(); exam(); exam(); exam(); exam(); exam()");
        done("guess(15)", 14, "differ(0, 15) = 0; kind(15) = 1");
    }

    @Says("ACT: a machine as the GUESS lies at to. Answers its n.")
    void p30_guess_ofItsOwnKind() {
        begin(HOUSE);
        for (int to : new int[] {0, 1, 2, 3, 4, 8}) {
            done("guess(" + to + ")", 2, with("row(%, 0, 1) = -1; status() = 4; say(%, 0, 2) = -1; status() = 2; act(%, 0, 0, 0) = -1; status() = 4; answer(%, '0^30') = 0", to, to, to, to));
        }
        begin(PATH, taught(0, 0));
        done("guess(8)", 1, shows(8, 2, 2, "50-"), "row(8, 0, 1) = 1; say(8, 0, 7) = 0; guess(8) = 1", shows(8, 2, 2, "50-"));
        // 14 STATES by 4 SIGNS
        begin("machine(0, 1, 14, 4); draw(0, 1)", taught(0, 0), "exam()");
        done("guess(8)", 14, "differ(0, 8) = 0; kind(8) = 1; size(8, 1) = 4; exam() = 0");
        begin("machine(0, 3, 14, 4); draw(0, 21842)", taught(0, 0), "exam(); exam()");
        done("guess(8)", 14, "differ(0, 8) = 0; kind(8) = 2; size(8, 1) = 4; exam() = 0");
    }

    @Says("MISSING: there is no pupil;")
    void p30_guess_noPupil() {
        begin(FOURS, "teacher(1, 0, 0, 0)");
        refused("guess(0)", MISSING);
        refused("guess(15)", MISSING);
    }

    @Says("PLACE to.")
    void p30_guess_place() {
        begin(HOUSE);
        placeRefused("guess(%)");
        done("guess(0)", 2);
        done("guess(15)", 2);
    }

    @Says(ORDER)
    void p30_guess_order() {
        begin(FOURS, "teacher(1, 0, 0, 0)");
        for (String p : NO_PLACES) {
            refused("guess(" + p + ")", MISSING);
        }
    }

    // ---- promises 31 and 32: ahead, behind

    @Says("ASK: word i of AHEAD, from 0 on;")
    void p31_ahead_words() {
        begin(FOURS, taught(0, 0), "exam(); exam()");
        for (int i = 0; i < 4; i++) {
            asks("ahead(" + i + ")", 1L << 2 * i);
        }
        begin(HOUSE);
        asks("ahead(0)", 1);
        asks("ahead(1)", 4);
    }

    @Says("NONE if there is none such.")
    void p31_ahead_none() {
        begin(FOURS, taught(0, 0), "exam(); exam()");
        for (String i : new String[] {"-1", "4", "14", "MIN", "MAX"}) {
            asks("ahead(" + i + ")", -1);
        }
        begin(FOURS, "teacher(1, 0, 0, 0)");
        asks("ahead(0)", -1);
        asks("ahead(-1)", -1);
        begin(HOUSE, "learn(4); learn(5)");
        asks("ahead(0)", 1);
        asks("ahead(1)", -1);
    }

    @Says("ASK: word j of BEHIND, from 0 on;")
    void p32_behind_words() {
        begin(FOURS, taught(0, 0), "exam(); exam()");
        asks("behind(0)", 1);
        asks("behind(1)", School.number("'00'"));
        asks("behind(2)", School.number("'0'"));
    }

    @Says("NONE if there is none such.")
    void p32_behind_none() {
        begin(FOURS, taught(0, 0), "exam(); exam()");
        for (String j : new String[] {"-1", "3", "14", "MIN", "MAX"}) {
            asks("behind(" + j + ")", -1);
        }
        begin(FOURS, "teacher(1, 0, 0, 0)");
        asks("behind(0)", -1);
        asks("behind(-1)", -1);
        begin(HOUSE, "learn(5)");
        asks("behind(0)", 1);
        asks("behind(1)", -1);
    }

    // ---- promise 33: cell

    @Says("ASK: what the teacher answers to word i of AHEAD, with SIGN a behind it (a = -1: without), with word j of BEHIND behind that.")
    void p33_cell_answers() {
        begin(FOURS, taught(0, 0), "exam(); exam()");
        for (int i = 0; i < 4; i++) {
            asks("cell(" + i + ", -1, 0)", i == 3 ? 1 : 0);
            asks("cell(" + i + ", 0, 0)", i == 2 ? 1 : 0);
            asks("cell(" + i + ", 1, 0)", i == 3 ? 1 : 0);
            asks("cell(" + i + ", -1, 1)", i == 1 ? 1 : 0);
            asks("cell(" + i + ", 0, 1)", i == 0 ? 1 : 0);
            asks("cell(" + i + ", 1, 2)", i == 2 ? 1 : 0);
        }
        begin(PATH, taught(0, 0), "exam()");
        asks("cell(0, -1, 0)", 5);
        asks("cell(0, -1, 1)", 5);
        asks("cell(0, 1, 0)", 8);
        asks("cell(0, 1, 1)", 8);
        asks("cell(1, -1, 1)", 8);
        asks("cell(1, 0, 0)", 5);
        asks("cell(1, 0, 1)", 8);
    }

    @Says("NONE: there is no such word, or a is not -1 to k - 1.")
    void p33_cell_none() {
        begin(FOURS, taught(0, 0), "exam(); exam()");
        for (String none : new String[] {"-1", "4", "14", "MIN", "MAX"}) {
            asks("cell(" + none + ", -1, 0)", -1);
            asks("cell(0, -1, " + none + ")", -1);
        }
        asks("cell(0, -1, 3)", -1);
        asks("cell(3, -1, 2)", 0);
        for (String a : new String[] {"-2", "2", "3", "MIN", "MAX"}) {
            asks("cell(0, " + a + ", 0)", -1);
        }
        asks("cell(0, 1, 0)", 0);
        // k is that of the SECRET: 1, not the 4 of the machine, and 4
        begin(lay(0, 2, 4, "30---"), taught(0, 0));
        asks("cell(0, 0, 0)", 3);
        asks("cell(0, 1, 0)", -1);
        begin(lay(0, 2, 4, "3---0"), taught(0, 0));
        asks("cell(0, 3, 0)", 3);
        asks("cell(0, 0, 0)", 8);
        asks("cell(0, 4, 0)", -1);
        begin(FOURS, "teacher(1, 0, 0, 0)");
        asks("cell(0, -1, 0)", -1);
        asks("cell(0, 0, 0)", -1);
    }

    // ---- promises 34 and 35: told, guesses

    @Says("ASK: the word that the pupil LEARNT latest since learn();")
    void p34_told_latest() {
        begin(FOURS, taught(0, 0), "exam()");
        asks("told()", School.number("'000'"));
        begin(FOURS, taught(0, 0), "tell('0^7')");
        asks("told()", School.number("'0^7'"));
        begin(FOURS, taught(0, 0), "tell('0^7'); exam()");
        asks("told()", School.number("'000'"));
        begin(FOURS, taught(0, 0), "exam(); tell('1^27 000')");
        asks("told()", School.number("'1^27 000'"));
        begin(FOURS, taught(0, 0), "exam(); tell('1^27 000'); exam()");
        asks("told()", School.number("'1^27 000'"));
    }

    @Says("0 if there is none.")
    void p34_told_none() {
        begin();
        asks("told()", 0);
        begin(FOURS, taught(0, 0));
        asks("told()", 0);
        begin(FOURS, taught(0, 0), "exam(); learn(1)");
        asks("told()", 0);
        begin(FOURS, taught(1, 2), "exam()");
        asks("told()", 0);
    }

    @Says("ASK: how many GUESSES were made since learn(), the first one counted;")
    void p35_guesses_sinceLearn() {
        begin(FOURS, taught(0, 0));
        asks("guesses()", 1);
        begin(FOURS, taught(0, 0), "exam()");
        asks("guesses()", 2);
        begin(FOURS, taught(0, 0), "exam(); exam()");
        asks("guesses()", 3);
        begin(FOURS, taught(0, 0), "exam(); exam(); exam(); guess(5)");
        asks("guesses()", 3);
        begin(FOURS, taught(0, 0), "exam(); learn(1)");
        asks("guesses()", 1);
    }

    @Says("0 without a pupil.")
    void p35_guesses_noPupil() {
        begin(FOURS, "teacher(1, 0, 0, 0)");
        asks("guesses()", 0);
    }

    public static void main(String[] args) {
        new EdgesPupilTest().runAll(args);
    }
}
