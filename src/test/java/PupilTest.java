/** Promises 27 to 35: the pupil. */
public final class PupilTest {
    private static final Due due = new Due("PupilTest");

    /** At 0: YES is a number of SIGNS 0 that is 3, 7, 11, ..; SIGN 1 changes nothing. */
    private static void ring(WordSchool x) {
        due.lay(0, 0, 2, "010", "021", "032", "103");
    }

    private static void learn() {
        WordSchool x = due.promise(27);
        ring(x);
        x.teacher(1, 0, 0, 0);
        due.done("learn", x.learn(1), 1);
        due.is("AHEAD", x.ahead(0), 1);
        due.is("AHEAD", x.ahead(1), -1);
        due.is("BEHIND", x.behind(0), 1);
        due.is("BEHIND", x.behind(1), -1);
        due.is("told()", x.told(), 0);
        due.is("guesses()", x.guesses(), 1);
        due.done("exam", x.exam(), 2);
        due.is("told()", x.told(), Due.w("000"));
        due.is("AHEAD", x.ahead(1), Due.w("0"));
        due.done("it begins anew", x.learn(1), 1);
        due.is("AHEAD", x.ahead(1), -1);
        due.is("BEHIND", x.behind(1), -1);
        due.is("told()", x.told(), 0);
        due.is("guesses()", x.guesses(), 1);
        due.done("lift", x.lift(1), 0);
        due.lay(1, 1, 1, "70");
        due.done("the teacher is kept", x.exam(), 2);

        due.lay(2, 1, 2, "012", "123", "203", "312");
        x.teacher(3, 1, 2, 5);
        due.done("a first CLOSE with more", x.learn(3), 4);
        due.is("AHEAD 1", x.ahead(1), Due.w("0"));
        due.is("AHEAD 2", x.ahead(2), Due.w("1"));
        due.is("AHEAD 3", x.ahead(3), Due.w("01"));
        due.refused("no PLACE", x.learn(16), Due.BEYOND);
        due.refused("nothing", x.learn(9), Due.MISSING);
        due.refused("a machine", x.learn(0), Due.KIND);
        x.teacher(4, 2, 0, 30);
        due.refused("FORGETFUL", x.learn(4), Due.KIND);
        due.is("the pupil is as it was", x.ahead(3), Due.w("01"));
        due.is("guesses()", x.guesses(), 1);
    }

    private static void exam() {
        WordSchool x = due.promise(28);
        due.refused("no pupil", x.exam(), Due.MISSING);
        ring(x);
        x.teacher(1, 1, 0, 2);
        x.learn(1);
        due.done("000 is longer than the LIMIT", x.exam(), 0);
        due.is("nothing happens", x.guesses(), 1);
        due.is("told()", x.told(), 0);
        x.teacher(1, 1, 0, 3);
        due.done("the pupil keeps the first teacher", x.exam(), 0);
        x.learn(1);
        // V is 1 at 0 of 000 and 0 behind: V(1) is the answer to 00, so 00 comes to BEHIND
        due.done("000 is as long as the LIMIT", x.exam(), 2);
        due.is("told()", x.told(), Due.w("000"));
        due.is("BEHIND", x.behind(1), Due.w("00"));
        due.is("guesses()", x.guesses(), 2);
        // 00 goes back to the empty word now: V is 1, 1 (000), 0 (0), so 0 comes to BEHIND
        due.done("000 once more", x.exam(), 4);
        due.is("told()", x.told(), Due.w("000"));
        due.is("BEHIND", x.behind(2), Due.w("0"));
        due.is("guesses()", x.guesses(), 3);
        due.done("it is right", x.exam(), 0);
        due.is("guesses()", x.guesses(), 3);
        due.is("told() stays", x.told(), Due.w("000"));
        due.refused("a refused ACT", x.lift(9), Due.MISSING);
        due.done("exam makes status() 0", x.exam(), 0);
        partial(x);
    }

    private static void partial(WordSchool x) {
        // 0 leads on twice, 1 nowhere but at the end
        due.lay(2, 2, 2, "51-", "52-", "5-2");
        x.teacher(3, 0, 2, 0);
        due.done("learn", x.learn(3), 1);
        due.done("guess", x.guess(4), 1);
        due.machine(4, 2, 2, "50-");
        // 000 has NO ANSWER, but by the GUESS it has: V is 8, then 5 (00)
        due.done("exam", x.exam(), 2);
        due.is("told()", x.told(), Due.w("000"));
        due.is("BEHIND", x.behind(1), Due.w("00"));
        due.done("guess", x.guess(4), 2);
        due.machine(4, 2, 2, "51-", "51-");
        // V is 8, 8 (000), then 5 (00)
        due.done("exam", x.exam(), 3);
        due.is("told()", x.told(), Due.w("000"));
        due.is("BEHIND", x.behind(2), Due.w("0"));
        due.done("guess", x.guess(4), 3);
        due.machine(4, 2, 2, "51-", "52-", "5-2");
        due.done("exam", x.exam(), 0);
    }

    private static void tell() {
        WordSchool x = due.promise(29);
        due.refused("no pupil", x.tell(0), Due.MISSING);
        ring(x);
        x.teacher(1, 1, 0, 0);
        x.learn(1);
        due.refused("no WORD", x.tell(0), Due.BEYOND);
        due.refused("no WORD", x.tell(2), Due.BEYOND);
        due.refused("no WORD", x.tell(1L << 61), Due.BEYOND);
        due.refused("no WORD", x.tell(-1), Due.BEYOND);
        due.refused("alike", x.tell(1), Due.ALIKE);
        due.refused("alike", x.tell(Due.w("00")), Due.ALIKE);
        due.refused("NO ANSWER by both", x.tell(Due.w("2")), Due.ALIKE);
        due.is("nothing told", x.told(), 0);
        // 7 SIGNS: V(0) is 1; half 3: V is that of 0000, 0, high 3; half 1: of 000000, 0, high 1
        due.done("beyond the LIMIT, too", x.tell(Due.w("0000000")), 2);
        due.is("told()", x.told(), Due.w("0000000"));
        due.is("BEHIND", x.behind(1), Due.w("000000"));
        due.is("guesses()", x.guesses(), 2);
        // the GUESS goes to and fro by 0; half 3: V is that of 00000, 0, high 3; half 1: of 0000000,
        // 1, low 1; half 2: of 00000, 0, high 2
        due.done("still unlike", x.tell(Due.w("0000000")), 4);
        due.is("BEHIND", x.behind(2), Due.w("00000"));
        due.is("AHEAD 3", x.ahead(3), Due.w("000"));
        due.is("guesses()", x.guesses(), 3);
        due.refused("alike now", x.tell(Due.w("0000000")), Due.ALIKE);
        x.learn(1);
        // 000 with ten SIGNS 1 behind it; half 6: V is that of 1111111, 0, high 6; half 3: of
        // 1111111111, 0, high 3; half 1: of 00 and these, 0, high 1
        due.done("tell", x.tell(Due.w("0001111111111")), 2);
        due.is("BEHIND", x.behind(1), Due.w("001111111111"));
        x.learn(1);
        // SIGNS 1 first: V stays 1 up to the first SIGN 0
        due.done("tell 30 SIGNS", x.tell(Due.w("111111111111111111111111111000")), 2);
        due.is("BEHIND", x.behind(1), Due.w("00"));
        due.is("AHEAD 1", x.ahead(1), Due.w("0"));
    }

    private static void guess() {
        WordSchool x = due.promise(30);
        due.refused("no pupil comes first", x.guess(16), Due.MISSING);
        ring(x);
        x.teacher(1, 0, 0, 0);
        x.learn(1);
        due.refused("no PLACE", x.guess(16), Due.BEYOND);
        due.refused("no PLACE", x.guess(-1), Due.BEYOND);
        due.done("WHOLE", x.guess(15), 1);
        due.machine(15, 0, 2, "000");
        x.exam();
        x.exam();
        due.machine(15, 0, 2, "000");
        due.done("in place of the TEACHER", x.guess(1), 4);
        due.machine(1, 0, 2, "010", "021", "032", "103");
        x.say(1, 0, 1);
        due.done("a machine of its own", x.guess(2), 4);
        due.machine(2, 0, 2, "010", "021", "032", "103");

        due.lay(3, 1, 1, "21", "22", "30");
        x.teacher(3, 0, 3, 0);
        x.learn(3);
        due.done("MOORE", x.guess(4), 1);
        due.machine(4, 1, 1, "20");
    }

    private static void kOfSecret() {
        WordSchool x = due.promise(30);
        // by SIGN 1 a TAKE is there, but the first GUESS has it not: k is that of the SECRET all the same
        due.lay(0, 2, 3, "0-1-", "0---");
        x.teacher(1, 0, 0, 0);
        due.done("learn", x.learn(1), 1);
        due.done("guess", x.guess(2), 1);
        due.machine(2, 2, 2, "0-0");
        due.lay(0, 2, 4, "0---0");
        x.teacher(1, 0, 0, 0);
        x.learn(1);
        x.guess(2);
        due.machine(2, 2, 4, "0---0");
    }

    private static void lists() {
        WordSchool x = due.promise(31);
        due.is("no pupil", x.ahead(0), -1);
        due.is("no pupil", x.behind(0), -1);
        due.is("no pupil", x.cell(0, -1, 0), -1);
        due.is("no pupil", x.told(), 0);
        due.is("no pupil", x.guesses(), 0);
        ring(x);
        x.teacher(1, 0, 0, 0);
        x.learn(1);
        x.exam();
        x.exam();
        for (int i = 0; i < 4; i++) {
            due.is("ahead", x.ahead(i), Due.w("000".substring(0, i)));
        }
        int[] none = {-1, 4, 100, Integer.MAX_VALUE, Integer.MIN_VALUE};
        for (int i : none) {
            due.is("ahead(" + i + ")", x.ahead(i), -1);
            due.is("behind(" + i + ")", x.behind(i), -1);
            due.is("cell(" + i + ", -1, 0)", x.cell(i, -1, 0), -1);
            due.is("cell(0, -1, " + i + ")", x.cell(0, -1, i), -1);
        }
        due.is("behind(0)", x.behind(0), 1);
        due.is("behind(1)", x.behind(1), Due.w("00"));
        due.is("behind(2)", x.behind(2), Due.w("0"));
        due.is("behind(3)", x.behind(3), -1);
    }

    private static void cell() {
        WordSchool x = due.promise(33);
        ring(x);
        x.teacher(1, 0, 0, 0);
        x.learn(1);
        x.exam();
        x.exam();
        x.lift(1);
        for (int i = 0; i < 4; i++) {
            due.is("without a SIGN", x.cell(i, -1, 0), i == 3 ? 1 : 0);
            due.is("with SIGN 0", x.cell(i, 0, 0), i == 2 ? 1 : 0);
            due.is("with SIGN 1", x.cell(i, 1, 0), i == 3 ? 1 : 0);
            due.is("without a SIGN, then 00", x.cell(i, -1, 1), i == 1 ? 1 : 0);
            due.is("with SIGN 0, then 00", x.cell(i, 0, 1), i == 0 ? 1 : 0);
            due.is("with SIGN 1, then 0", x.cell(i, 1, 2), i == 2 ? 1 : 0);
            due.is("a is k", x.cell(i, 2, 0), -1);
            due.is("a is -2", x.cell(i, -2, 0), -1);
        }
        due.lay(2, 2, 2, "51-", "52-", "5-2");
        x.teacher(3, 0, 2, 0);
        x.learn(3);
        x.exam();
        due.is("NO ANSWER", x.cell(0, 1, 0), 8);
        due.is("NO ANSWER", x.cell(0, 1, 1), 8);
        due.is("0 and 00", x.cell(1, -1, 1), 8);
        due.is("00", x.cell(0, -1, 1), 5);
    }

    /** BEHIND words of 29 SIGNS behind AHEAD words of 13: the teacher answers all the same. */
    private static void longWords() {
        WordSchool x = due.promise(33);
        x.machine(0, 0, 14, 2);
        for (int s = 0; s < 14; s++) {
            x.take(0, s, 0, (s + 1) % 14);
            x.take(0, s, 1, s);
        }
        x.say(0, 13, 1);
        x.teacher(1, 0, 0, 0);
        x.learn(1);
        // 27 SIGNS 0 with three SIGNS 1 behind them are YES, no shorter row of SIGNS 0 but 13 of them
        due.done("tell", x.tell(Due.w("000000000000000000000000000111")), 2);
        due.is("BEHIND", x.behind(1), Due.w("00000000000000000000000000111"));
        due.is("31 SIGNS", x.cell(1, 0, 1), 0);
        due.is("30 SIGNS", x.cell(1, -1, 1), 1);
        for (int c = 0; c < 13 && x.exam() > 0; c++) {
            due.is("it learns more", x.guesses(), c + 3);
        }
        due.is("AHEAD", x.ahead(13), Due.w("0000000000000"));
        for (int i = 0; i < 14; i++) {
            due.is("cell of up to 42 SIGNS", x.cell(i, -1, 1), (i + 26) % 14 == 13 ? 1 : 0);
            due.is("cell of up to 43 SIGNS", x.cell(i, 0, 1), (i + 27) % 14 == 13 ? 1 : 0);
        }
        due.done("exam", x.exam(), 0);
        due.done("guess", x.guess(2), 14);
        due.is("differ", x.differ(0, 2), 0);
    }

    private static void toldAndGuesses() {
        WordSchool x = due.promise(34);
        x.machine(0, 1, 14, 4);
        x.draw(0, 4);
        for (int s = 0; s < 14; s++) {
            x.say(0, s, s == 9 ? 1 : 0);
        }
        int n = x.least(0, 2);
        x.teacher(1, 0, 0, 0);
        int before = x.learn(1);
        int made = 1;
        int now = x.exam();
        while (now > 0) {
            made++;
            due.is("each GUESS has more STATES", now > before ? 1 : 0, 1);
            due.is("a word of BEHIND more", x.behind(made - 1) > 0 ? 1 : 0, 1);
            due.is("guesses()", x.guesses(), made);
            before = now;
            now = x.exam();
        }
        due.is("all STATES are found", before, n);
        due.is("more than two GUESSES", made > 2 ? 1 : 0, 1);
        due.is("told() is a word", x.told() > 1 ? 1 : 0, 1);
    }

    public static void main(String[] args) {
        learn();
        exam();
        tell();
        guess();
        kOfSecret();
        lists();
        cell();
        longWords();
        toldAndGuesses();
        due.end();
    }
}
