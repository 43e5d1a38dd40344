/** The boundary cases of promises 25 and 26: TEACHERS. */
public final class EdgesTeachingTest extends Edges {
    private static final String ORDER = "Refusals are told in the order in which they are looked for.";

    // ---- promise 25: teacher

    @Says("ACT: a new TEACHER of that KIND lies at p (in place of what lay there, also if p is from), with the LEAST machine of the one at from as its SECRET;")
    void p25_teacher_inPlaceOfWhatLayThere() {
        begin(HOUSE);
        for (int kind = 0; kind < 3; kind++) {
            for (int p : new int[] {0, 1, 2, 3, 4, 5, 6, 7, 15}) {
                done(with("teacher(%, %, 1, 4)", p, kind), 0, with("kind(%) = %; answer(%, '') = 7; answer(%, '0') = 3; answer(%, '2') = 8; leads(%, 0, 0) = -3; says(%, 0) = -1", p, 4 + kind, p, p, p, p, p));
            }
        }
        done("teacher(1, 0, 1, 0)", 0, "kind(1) = 4; answer(1, '1') = 5; say(1, 0, 0) = -1; status() = 4");
        done("teacher(7, 0, 1, 0)", 0, "raise(7) = -1; status() = 0; kind(7) = 4");
        done("teacher(5, 0, 1, 0)", 0, "exam() = 4; unknow() = 3");
        // the SECRET is the LEAST machine: k is the one that cell looks at
        begin(lay(0, 2, 4, "10--."), "take(0, 0, 3, -1)");
        done("teacher(1, 0, 0, 0)", 0, "learn(1) = 1; cell(0, 0, 0) = 1; cell(0, 1, 0) = -1; guess(2) = 1; size(2, 1) = 1; kind(2) = 0");
    }

    @Says("it is SHORT or FORGETFUL with that LIMIT (EXACT: the LIMIT is 30, limit is looked at all the same);")
    void p25_teacher_limit() {
        begin(HOUSE);
        for (int limit : new int[] {0, 1, 29, 30}) {
            done(with("teacher(8, 0, 0, %)", limit), 0, "size(8, 0) = 30");
            done(with("teacher(8, 1, 0, %)", limit), 0, "size(8, 0) = " + limit);
            done(with("teacher(8, 2, 0, %)", limit), 0, "size(8, 0) = " + limit);
        }
        refused("teacher(8, 0, 0, -1)", NEGATIVE);
        refused("teacher(8, 0, 0, 31)", BEYOND);
    }

    @Says("nothing is FORGOTTEN. Answers 0.")
    void p25_teacher_nothingForgotten() {
        begin(HOUSE);
        for (int kind = 0; kind < 3; kind++) {
            done(with("teacher(6, %, 2, 5)", kind), 0, "size(6, 1) = 0; answer(6, '0') = 5; answer(6, '22') = 8");
        }
        begin("machine(0, 0, 1, 1); teacher(1, 2, 0, 1); forget(1, 1); forget(1, 4); forget(1, 5); forget(1, 6); forget(1, 7); forget(1, 16); forget(1, 17); forget(1, 18)");
        done("teacher(1, 2, 0, 1)", 0, "size(1, 1) = 0; forget(1, 1) = 1; forget(1, 64) = 2");
    }

    @Says("PLACE p")
    void p25_teacher_place() {
        begin(HOUSE);
        placeRefused("teacher(%, 0, 0, 0)");
        done("teacher(0, 0, 1, 0)", 0, "kind(0) = 4");
        done("teacher(15, 0, 1, 0)", 0, "kind(15) = 4");
    }

    @Says("MACHINE from")
    void p25_teacher_from() {
        begin(HOUSE);
        machineRefused("teacher(8, 0, %, 0)");
        done("teacher(8, 0, 0, 0)", 0);
        done("teacher(8, 0, 15, 0)", 0);
    }

    @Says("KIND: kind is not 0 to 2")
    void p25_teacher_kind() {
        begin(HOUSE);
        for (String kind : new String[] {"-1", "3", "MIN", "MAX"}) {
            refused("teacher(8, " + kind + ", 0, 0)", KIND);
            refused("teacher(0, " + kind + ", 0, 0)", KIND);
        }
        done("teacher(8, 0, 0, 0)", 0, "kind(8) = 4");
        done("teacher(8, 1, 0, 0)", 0, "kind(8) = 5");
        done("teacher(8, 2, 0, 0)", 0, "kind(8) = 6");
    }

    @Says("NEGATIVE: limit is below 0")
    void p25_teacher_negative() {
        begin(HOUSE);
        for (int kind = 0; kind < 3; kind++) {
            refused(with("teacher(8, %, 0, -1)", kind), NEGATIVE);
            refused(with("teacher(0, %, 0, MIN)", kind), NEGATIVE);
            done(with("teacher(8, %, 0, 0)", kind), 0);
        }
    }

    @Says("BEYOND: it is above 30")
    void p25_teacher_above30() {
        begin(HOUSE);
        for (int kind = 0; kind < 3; kind++) {
            refused(with("teacher(8, %, 0, 31)", kind), BEYOND);
            refused(with("teacher(0, %, 0, MAX)", kind), BEYOND);
            done(with("teacher(8, %, 0, 30)", kind), 0);
        }
    }

    @Says("FULL: the machine is GREAT.")
    void p25_teacher_great() {
        begin(pairs(0, 14), pairs(1, 15), wide(2), "machine(3, 0, 1, 1)");
        for (int kind = 0; kind < 3; kind++) {
            done(with("teacher(8, %, 0, 3)", kind), 0, "answer(8, '0^13') = 0; answer(8, '0^14') = 8");
            refused(with("teacher(8, %, 1, 3)", kind), FULL);
            refused(with("teacher(1, %, 1, 3)", kind), FULL);
            refused(with("teacher(3, %, 2, 3)", kind), FULL);
        }
    }

    @Says(ORDER)
    void p25_teacher_order() {
        begin(HOUSE, pairs(8, 15));
        order("teacher(9, 0, 0, 0)", "BEYOND 0=16", "BEYOND 0=-1", "BEYOND 2=16", "MISSING 2=7", "KIND 2=4", "KIND 2=6", "KIND 1=3", "KIND 1=-1",
            "NEGATIVE 3=-1", "BEYOND 3=31", "FULL 2=8");
    }

    // ---- promise 26: forget

    @Says("ACT: the TEACHER at p has FORGOTTEN a word. Answers how many these are now.")
    void p26_forget_word() {
        begin(HOUSE);
        changes("forget(6, '')", 3, "size(6, 1) = 3; answer(6, 1) = 9");
        changes("forget(6, '33')", 3, "size(6, 1) = 3; answer(6, 31) = 9");
        done("forget(6, '3^30')", 3, "answer(6, '3^30') = 9; answer(6, '3^29') = 8");
        done("forget(6, '0^30')", 3, "answer(6, '0^30') = 9; answer(6, '0^29') = 8");
    }

    @Says("PLACE p")
    void p26_forget_place() {
        begin(HOUSE, "teacher(15, 2, 0, 0); teacher(0, 2, 0, 0)");
        placeRefused("forget(%, '')");
        done("forget(0, '')", 1);
        done("forget(15, '')", 1);
    }

    @Says("MISSING: nothing lies there")
    void p26_forget_nothing() {
        begin(HOUSE);
        for (int p = 7; p < 15; p++) {
            refused("forget(" + p + ", '')", MISSING);
        }
    }

    @Says("KIND: no FORGETFUL TEACHER does")
    void p26_forget_kind() {
        begin(HOUSE);
        for (int p : new int[] {0, 1, 2, 3, 4, 5, 15}) {
            refused("forget(" + p + ", '')", KIND);
        }
        done("forget(6, '')", 3);
    }

    @Says("BEYOND: it is no WORD")
    void p26_forget_noWord() {
        begin(HOUSE);
        for (String word : NO_WORDS) {
            refused("forget(6, " + word + ")", BEYOND);
        }
        done("forget(6, '0^30')", 3);
        done("forget(6, '3^30')", 3);
    }

    @Says("ALIKE: it is FORGOTTEN already")
    void p26_forget_alike() {
        begin(HOUSE);
        refused("forget(6, '0')", ALIKE);
        refused("forget(6, '22')", ALIKE);
        done("forget(6, '00')", 3, "forget(6, '00') = -1; status() = 6; size(6, 1) = 3");
    }

    @Says({"FULL: there are 8.", "2 FORGETFUL: a SHORT one with FORGOTTEN words, at most 8."})
    void p26_forget_full() {
        begin(HOUSE, "forget(6, 5); forget(6, 6); forget(6, 7); forget(6, 16); forget(6, 17)");
        done("forget(6, 18)", 8, "forget(6, 19) = -1; status() = 5; size(6, 1) = 8; answer(6, 19) = 8");
        begin(HOUSE, "forget(6, 5); forget(6, 6); forget(6, 7); forget(6, 16); forget(6, 17); forget(6, 18)");
        refused("forget(6, '')", FULL);
        refused("forget(6, '3^30')", FULL);
        refused("forget(6, '0')", ALIKE);
        refused("forget(6, 18)", ALIKE);
    }

    @Says(ORDER)
    void p26_forget_order() {
        begin(HOUSE, "forget(6, 5); forget(6, 6); forget(6, 7); forget(6, 16); forget(6, 17); forget(6, 18)");
        order("forget(6, 1)", "BEYOND 0=16", "BEYOND 0=-1", "MISSING 0=7", "KIND 0=0", "KIND 0=3", "KIND 0=4", "KIND 0=5",
            "BEYOND 1=0", "BEYOND 1=2", "ALIKE 1=4", "ALIKE 1=18", "FULL 0=6");
    }

    public static void main(String[] args) {
        new EdgesTeachingTest().runAll(args);
    }
}
