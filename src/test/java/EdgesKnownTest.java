/** The boundary cases of promises 36 to 39: KNOWN words. */
public final class EdgesKnownTest extends Edges {
    private static final String ORDER = "Refusals are told in the order in which they are looked for.";
    /** Nine words more than the three of the HOUSE. */
    private static final String NINE_MORE = "know(4, '1'); know(4, '00'); know(4, '01'); know(4, '10'); know(4, '11'); know(4, '001'); know(4, '010'); know(4, '0^30'); know(4, '1^30')";

    // ---- promise 36: know

    @Says("ACT: the TEACHER at p is asked; the word, with its answer, comes to the end of KNOWN. Answers the answer.")
    void p36_know_comesToTheEnd() {
        begin(HOUSE);
        done("know(4, '1')", 5, "unknow() = 4");
        done("know(5, '1')", 0, "unknow() = 4");
        done("know(6, '2')", 6, "unknow() = 4");
        done("know(4, '0^30')", 7);
        done("know(5, '0^27')", 1);
        // the machine at 8 answers all that were KNOWN, in turn, as they are, the new word otherwise
        begin(HOUSE, lay(8, 1, 2, "714", "320", "230", "103", "003"));
        asks("fits(8)", -1);
        done("know(4, '1')", 5, "fits(8) = 3; fits(1) = 2");
    }

    @Says("PLACE p")
    void p36_know_place() {
        begin(HOUSE, "teacher(15, 0, 1, 0); teacher(0, 0, 1, 0)");
        placeRefused("know(%, '1')");
        done("know(0, '1')", 5);
        done("know(15, '1')", 5);
    }

    @Says("MISSING: nothing lies there")
    void p36_know_nothing() {
        begin(HOUSE);
        for (int p = 7; p < 15; p++) {
            refused("know(" + p + ", '1')", MISSING);
        }
    }

    @Says("KIND: no TEACHER does")
    void p36_know_kind() {
        begin(HOUSE);
        for (int p : new int[] {0, 1, 2, 3, 15}) {
            refused("know(" + p + ", '1')", KIND);
        }
        done("know(4, '1')", 5);
        done("know(5, '1')", 0);
        done("know(6, '2')", 6);
    }

    @Says("BEYOND: it is no WORD")
    void p36_know_noWord() {
        begin(HOUSE);
        for (String word : NO_WORDS) {
            refused("know(4, " + word + ")", BEYOND);
            refused("know(6, " + word + ")", BEYOND);
        }
        done("know(4, '0^30')", 7);
        done("know(4, '1^30')", 7);
    }

    @Says("MISSING: it answers 8 or 9")
    void p36_know_noAnswer() {
        begin(HOUSE);
        refused("know(4, '2')", MISSING);
        refused("know(4, '3^30')", MISSING);
        refused("know(5, '2')", MISSING);
        refused("know(6, '1')", MISSING);
        // FORGOTTEN, of the ANSWER 5, and of NO ANSWER
        refused("know(6, '0')", MISSING);
        refused("know(6, '22')", MISSING);
        // 7 is the greatest ANSWER there is, 0 the least
        done("know(4, '001')", 3);
        done("know(4, '01')", 7);
        done("know(5, '01')", 0);
    }

    @Says("ALIKE: the word is KNOWN already")
    void p36_know_alike() {
        begin(HOUSE);
        refused("know(4, '')", ALIKE);
        refused("know(4, '0')", ALIKE);
        refused("know(5, '')", ALIKE);
        refused("know(5, '0')", ALIKE);
        refused("know(4, '000')", ALIKE);
        done("know(4, '00')", 5, "know(5, '00') = -1; status() = 6; unknow() = 4; know(5, '00') = 0");
    }

    @Says("FULL: 12 are KNOWN.")
    void p36_know_full() {
        begin(HOUSE, NINE_MORE.substring(0, NINE_MORE.lastIndexOf(';')));
        done("know(4, '1^30')", 7, "know(4, '100') = -1; status() = 5; unknow() = 12");
        begin(HOUSE, NINE_MORE);
        refused("know(4, '100')", FULL);
        refused("know(5, '111')", FULL);
        refused("know(4, '1^30')", ALIKE);
        refused("know(4, '')", ALIKE);
    }

    @Says(ORDER)
    void p36_know_order() {
        begin(HOUSE, NINE_MORE.replace("know(4, '1^30')", "know(6, '2')"), "forget(6, '2')");
        order("know(4, 100)", "BEYOND 0=16", "BEYOND 0=-1", "MISSING 0=7", "KIND 0=0", "KIND 0=3", "BEYOND 1=0", "BEYOND 1=8",
            "MISSING 0=4 1=6", "MISSING 0=6 1=4", "MISSING 0=6 1=6", "MISSING 0=6 1=64", "ALIKE 0=4 1=1", "ALIKE 0=5 1=64");
        refused("know(4, '110')", FULL);
    }

    // ---- promise 37: unknow

    @Says("ACT: KNOWN becomes empty. Answers how many there were.")
    void p37_unknow_empty() {
        begin();
        done("unknow()", 0, "unknow() = 0");
        begin(HOUSE);
        done("unknow()", 3, "unknow() = 0; status() = 0; fits(0) = -1; fewest(8) = -1; status() = 1; know(4, '0') = 3; unknow() = 1");
        begin(HOUSE, NINE_MORE);
        done("unknow()", 12, "unknow() = 0; know(4, '0') = 3; know(4, '0') = -1; status() = 6");
    }

    // ---- promise 38: fewest

    /** At 0 a MOORE machine with an ANSWER of its own for each STATE: by 0 to 1 and on to 3, by other SIGNS to 2. */
    private static final String FOUR = lay(0, 1, 4, "01222", "13333", "20000", "30000") + "; teacher(1, 0, 0, 0)";

    @Says("ACT: a machine with the fewest STATES that gives all KNOWN words their answers lies at to. Answers its n.")
    void p38_fewest_lies() {
        begin(HOUSE);
        // 7, 3 and 1 behind 0, 1 and 3 SIGNS: STATE 2 leads on from STATE 1, and 000 ends there
        done("fewest(8)", 3, shows(8, 1, 1, "71", "32", "12"), "unknow() = 3");
        changes("fewest(8)", 3, "kind(8) = 1; size(8, 0) = 3; size(8, 1) = 1; says(8, 0) = 7; says(8, 1) = 3; says(8, 2) = 1; leads(8, 0, 0) = 1; leads(8, 1, 0) = 2; leads(8, 2, 0) = 2; fits(8) = -1");
        for (int p : new int[] {0, 4, 5, 6, 15}) {
            done("fewest(" + p + ")", 3, with("kind(%) = 1; size(%, 0) = 3; fits(%) = -1", p, p, p));
        }
        begin(FOUR, "know(1, '')");
        done("fewest(8)", 1, shows(8, 0, 1, "00"));
        begin(FOUR, "know(1, '0^30')");
        done("fewest(8)", 1, shows(8, 0, 1, "00"));
    }

    @Says("k is one more than the greatest SIGN in a KNOWN word, at least 1.")
    void p38_fewest_k() {
        begin(FOUR, "know(1, '')");
        done("fewest(8)", 1, "size(8, 1) = 1");
        for (int sign = 0; sign < 4; sign++) {
            begin(FOUR, "know(1, '" + sign + "')");
            done("fewest(8)", 1, "size(8, 1) = " + (sign + 1));
            begin(FOUR, "know(1, '" + sign + "000'); know(1, '0')");
            done("fewest(8)", sign == 0 ? 1 : 2, "size(8, 1) = " + (sign + 1));
            begin(FOUR, "know(1, ''); know(1, '00" + sign + "')");
            done("fewest(8)", 1, "size(8, 1) = " + (sign + 1));
        }
        begin("machine(0, 0, 1, 4); teacher(1, 0, 0, 0); know(1, '0^29 3')");
        done("fewest(8)", 1, "size(8, 1) = 4");
        begin("machine(0, 0, 1, 4); teacher(1, 0, 0, 0); know(1, '3 0^29')");
        done("fewest(8)", 1, "size(8, 1) = 4");
    }

    @Says({"A TABLE for n is n k TAKES, none of them MISSING, STATE by STATE, in each SIGN by SIGN; TABLES come in the order of their first unlike TAKES.",
        "It is the first TABLE, for the least n, by which no two KNOWN words with unlike answers end at one STATE;"})
    void p38_fewest_firstTable() {
        // by one SIGN and two STATES: 00, 01, 10, 11 are the TABLES, the last one alone will do
        begin(lay(0, 0, 1, "01", "11"), "teacher(1, 0, 0, 0); know(1, ''); know(1, '0'); know(1, '00')");
        done("fewest(8)", 2, shows(8, 0, 1, "01", "11"));
        // without 00 the one ahead of it comes
        begin(lay(0, 0, 1, "01", "11"), "teacher(1, 0, 0, 0); know(1, ''); know(1, '0')");
        done("fewest(8)", 2, shows(8, 0, 1, "01", "10"));
        // 0 stays at STATE 0, as the first TAKE is 0 in the first TABLE; then 1 has to lead to STATE 1
        begin(lay(0, 1, 2, "710", "201"), "teacher(1, 0, 0, 0); know(1, '0010'); know(1, '01'); know(1, ''); know(1, '00')");
        done("fewest(8)", 2, shows(8, 1, 2, "701", "210"));
        // of STATE 1 the first TAKE has to be 0 again, whatever was tried there
        begin(lay(0, 0, 3, "0100", "1000"), "teacher(1, 0, 0, 0); know(1, '0'); know(1, '2'); know(1, '00')");
        done("fewest(8)", 2, shows(8, 0, 3, "0100", "1000"));
        begin(lay(0, 0, 2, "110", "000"), "teacher(1, 0, 0, 0); know(1, '00'); know(1, '1'); know(1, '0')");
        done("fewest(8)", 2, shows(8, 0, 2, "110", "000"));
        // by 0 and then 1 another STATE than by 1: the last TAKE has to be 1, the one ahead of it 0
        begin(lay(0, 0, 2, "010", "101"), "teacher(1, 0, 0, 0); know(1, '01'); know(1, '1')");
        done("fewest(8)", 2, shows(8, 0, 2, "010", "101"));
        // 0 stays; by 1 and by 2 to STATE 1, all of whose TAKES are 0
        begin(lay(0, 0, 3, "0011", "1000"), "teacher(1, 0, 0, 0); know(1, '12'); know(1, '20'); know(1, '2')");
        done("fewest(8)", 2, shows(8, 0, 3, "0011", "1000"));
        // two answers, but 1 is answered behind three SIGNS alone: four STATES
        begin(lay(0, 0, 1, "01", "02", "03", "13"), "teacher(1, 0, 0, 0); know(1, '000'); know(1, '00'); know(1, '0'); know(1, '')");
        done("fewest(8)", 4, shows(8, 0, 1, "01", "02", "03", "10"));
    }

    @Says({"n is looked at as long as n to the power of n k is at most 20000.", "FULL: there is none for any n that is looked at."})
    void p38_fewest_howFar() {
        // k 1: 5 to the power of 5 is 3125, of 6 to the power of 6 46656
        begin(lay(0, 1, 1, "01", "12", "23", "34", "45", "55"), "teacher(1, 0, 0, 0); know(1, ''); know(1, '0'); know(1, '00'); know(1, '000'); know(1, '0000')");
        done("fewest(8)", 5, shows(8, 1, 1, "01", "12", "23", "34", "40"));
        begin(lay(0, 1, 1, "01", "12", "23", "34", "45", "55"), "teacher(1, 0, 0, 0); know(1, ''); know(1, '0'); know(1, '00'); know(1, '000'); know(1, '0000'); know(1, '0^5')");
        refused("fewest(8)", FULL);
        refused("fewest(0)", FULL);
        // k 2: 3 to the power of 6 is 729, 4 to the power of 8 65536
        begin(FOUR, "know(1, ''); know(1, '0'); know(1, '1')");
        done("fewest(8)", 3, shows(8, 1, 2, "012", "100", "200"));
        begin(FOUR, "know(1, ''); know(1, '0'); know(1, '1'); know(1, '00')");
        refused("fewest(8)", FULL);
        // k 3: 3 to the power of 9 is 19683, 4 to the power of 12 far more
        begin(FOUR, "know(1, ''); know(1, '0'); know(1, '2')");
        done("fewest(8)", 3, shows(8, 1, 3, "0102", "1000", "2000"));
        begin(FOUR, "know(1, ''); know(1, '0'); know(1, '2'); know(1, '00')");
        refused("fewest(8)", FULL);
        // k 4: 2 to the power of 8 is 256, 3 to the power of 12 531441
        begin(FOUR, "know(1, ''); know(1, '3')");
        done("fewest(8)", 2, shows(8, 1, 4, "00001", "20000"));
        begin(FOUR, "know(1, ''); know(1, '3'); know(1, '0')");
        refused("fewest(8)", FULL);
        // two answers that need four STATES: by k 1 there is a TABLE, by k 2 and 3 none that is looked at
        String four = lay(0, 0, 4, "01000", "02000", "03000", "13000") + "; teacher(1, 0, 0, 0); know(1, ''); know(1, '0'); know(1, '00'); know(1, '000')";
        begin(four);
        done("fewest(8)", 4);
        for (int sign = 1; sign < 4; sign++) {
            begin(four, "know(1, '" + sign + "')");
            refused("fewest(8)", FULL);
        }
    }

    @Says("A STATE at which KNOWN words end has their answer as its ANSWER, others 0; it is WHOLE if no ANSWER is above 1, else MOORE.")
    void p38_fewest_answers() {
        // 5 behind one SIGN, 6 behind three: at STATE 2 no KNOWN word ends
        begin(lay(0, 1, 1, "01", "52", "73", "63"), "teacher(1, 0, 0, 0); know(1, '0'); know(1, '000')");
        done("fewest(8)", 3, shows(8, 1, 1, "61", "52", "00"));
        begin(lay(0, 0, 1, "10"), "teacher(1, 0, 0, 0); know(1, '')");
        done("fewest(8)", 1, shows(8, 0, 1, "10"));
        begin(lay(0, 1, 1, "20"), "teacher(1, 0, 0, 0); know(1, '')");
        done("fewest(8)", 1, shows(8, 1, 1, "20"));
        begin(lay(0, 1, 1, "11", "00"), "teacher(1, 0, 0, 0); know(1, ''); know(1, '0')");
        done("fewest(8)", 2, shows(8, 0, 1, "11", "00"));
        // answers of two TEACHERS
        begin(lay(0, 1, 1, "70"), lay(1, 1, 1, "30"), "teacher(2, 0, 0, 0); teacher(3, 0, 1, 0); know(2, ''); know(3, '0')");
        done("fewest(8)", 2, shows(8, 1, 1, "71", "30"));
    }

    @Says("it is WHOLE if no ANSWER is above 1, else MOORE.")
    void p38_fewest_ofItsOwnKind() {
        begin(HOUSE);
        for (int to : new int[] {0, 1, 2, 3, 4, 8}) {
            done("fewest(" + to + ")", 3, with("kind(%) = 1; row(%, 0, 1) = -1; status() = 4; act(%, 0, 0, 0) = -1; status() = 4; say(%, 0, 6) = 0; answer(%, '0^30') = 1; take(%, 0, 0, -1) = -1; status() = 4", to, to, to, to, to, to));
        }
        begin(HOUSE, "unknow(); know(5, ''); know(5, '000')");
        for (int to : new int[] {0, 1, 2, 3, 4, 8}) {
            done("fewest(" + to + ")", 2, with("kind(%) = 0; row(%, 0, 1) = -1; status() = 4; say(%, 0, 2) = -1; status() = 2", to, to, to));
        }
    }

    @Says("PLACE to")
    void p38_fewest_place() {
        begin(HOUSE);
        placeRefused("fewest(%)");
        done("fewest(0)", 3);
        done("fewest(15)", 3);
    }

    @Says("MISSING: nothing is KNOWN")
    void p38_fewest_nothingKnown() {
        begin(HOUSE, "unknow()");
        for (int p : new int[] {0, 4, 7, 8, 15}) {
            refused("fewest(" + p + ")", MISSING);
        }
        begin(HOUSE, "unknow(); know(4, '')");
        done("fewest(8)", 1);
    }

    @Says(ORDER)
    void p38_fewest_order() {
        begin(HOUSE, "unknow()");
        placeRefused("fewest(%)");
        begin(FOUR, "know(1, ''); know(1, '3'); know(1, '0')");
        placeRefused("fewest(%)");
    }

    // ---- promise 39: fits

    @Says("ASK: the number (from 0 on) of the first KNOWN word to which the machine at p gives another ANSWER than it has there, or NO ANSWER;")
    void p39_fits_first() {
        begin(HOUSE);
        asks("fits(0)", 0);
        asks("fits(1)", 2);
        asks("fits(3)", 0);
        // NO ANSWER to 0, and to 000
        begin(HOUSE, lay(8, 2, 1, "7-"), lay(9, 2, 1, "71", "32", "0-"), lay(10, 2, 1, "71", "32", "03", "1-"), pairs(11, 15), "say(11, 0, 7); say(11, 1, 3); say(11, 3, 1)");
        asks("fits(8)", 1);
        asks("fits(9)", 2);
        asks("fits(10)", -1);
        asks("fits(11)", -1);
        begin(HOUSE, NINE_MORE, lay(8, 1, 2, "712", "320", "501"));
        asks("fits(8)", 2);
        begin(lay(0, 1, 2, "712", "320", "501"), "teacher(4, 0, 0, 0); know(4, ''); know(4, '0'); know(4, '000')", NINE_MORE, lay(1, 1, 2, "712", "320", "501", "000"),
            lay(2, 2, 2, "71-", "32-", "50-"));
        asks("fits(1)", -1);
        asks("fits(2)", 3);
    }

    @Says("NONE if there is none;")
    void p39_fits_none() {
        begin(HOUSE, "unknow()");
        asks("fits(0)", -1);
        asks("fits(3)", -1);
        asks("fits(15)", -1);
        begin(HOUSE, "unknow(); know(4, '0')");
        asks("fits(1)", -1);
        asks("fits(0)", 0);
    }

    @Says("-2: no machine lies at p.")
    void p39_fits_noMachine() {
        begin(HOUSE);
        for (String p : new String[] {"4", "5", "6", "7", "14", "-1", "16", "MIN", "MAX"}) {
            asks("fits(" + p + ")", -2);
        }
        begin();
        asks("fits(0)", -2);
    }

    public static void main(String[] args) {
        new EdgesKnownTest().runAll(args);
    }
}
