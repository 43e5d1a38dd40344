/** Promises 11 to 20: what can be asked of machines, and of TEACHERS where the document says so. */
public final class AskingTest {
    private static final Due due = new Due("AskingTest");
    private static final int[] NO_PLACES = {-1, 16, Integer.MAX_VALUE, Integer.MIN_VALUE};
    private static final long LONGEST_FIRST = 1L << 60;
    private static final long LONGEST_LAST = (1L << 61) - 1;
    private static final long[] NO_WORDS = {0, -1, 2, 3, 8, 15, 32, 63, 1L << 61, 1L << 62, Long.MAX_VALUE, Long.MIN_VALUE};

    /** Machines of the four KINDS at 0 to 3, TEACHERS of the three KINDS at 4 to 6, nothing at 7. */
    private static WordSchool full(int promise) {
        WordSchool x = due.promise(promise);
        due.lay(0, 0, 2, "110", "001");
        due.lay(1, 1, 2, "710", "201");
        due.lay(2, 2, 2, "71-", "201");
        due.lay(3, 3, 2, "100");
        x.act(3, 0, 0, 1);
        x.act(3, 0, 1, 2);
        x.teacher(4, 0, 1, 7);
        x.teacher(5, 1, 1, 7);
        x.teacher(6, 2, 1, 0);
        return x;
    }

    private static void kind() {
        WordSchool x = full(11);
        for (int p = 0; p < 7; p++) {
            due.is("kind(" + p + ")", x.kind(p), p);
        }
        due.is("kind(7)", x.kind(7), -1);
        for (int p : NO_PLACES) {
            due.is("kind(" + p + ")", x.kind(p), -1);
        }
    }

    private static void size() {
        WordSchool x = full(12);
        due.is("size(0, 0)", x.size(0, 0), 2);
        due.is("size(3, 0)", x.size(3, 0), 1);
        due.is("size(3, 1)", x.size(3, 1), 2);
        due.is("LIMIT of EXACT", x.size(4, 0), 30);
        due.is("LIMIT of SHORT", x.size(5, 0), 7);
        due.is("LIMIT of FORGETFUL", x.size(6, 0), 0);
        x.forget(6, 1);
        x.forget(6, 4);
        due.is("FORGOTTEN of EXACT", x.size(4, 1), 0);
        due.is("FORGOTTEN of SHORT", x.size(5, 1), 0);
        due.is("FORGOTTEN of FORGETFUL", x.size(6, 1), 2);
        due.is("size(0, 2)", x.size(0, 2), -1);
        due.is("size(0, -1)", x.size(0, -1), -1);
        due.is("size(5, 2)", x.size(5, 2), -1);
        due.is("size(7, 0)", x.size(7, 0), -1);
        for (int p : NO_PLACES) {
            due.is("size(" + p + ", 0)", x.size(p, 0), -1);
        }
    }

    private static void leads() {
        WordSchool x = full(13);
        due.is("leads(1, 0, 0)", x.leads(1, 0, 0), 1);
        due.is("leads(2, 0, 1)", x.leads(2, 0, 1), -1);
        due.is("leads(2, 0, 2)", x.leads(2, 0, 2), -2);
        due.is("leads(2, 0, -1)", x.leads(2, 0, -1), -2);
        x.row(2, 1, 1);
        due.is("leads(2, 1, 0)", x.leads(2, 1, 0), -1);
        due.is("leads(2, 1, 1)", x.leads(2, 1, 1), -2);
        x.cut(2, 1);
        due.is("leads(2, 1, 0)", x.leads(2, 1, 0), -2);
        due.is("leads(2, 2, 0)", x.leads(2, 2, 0), -3);
        due.is("leads(2, -1, 0)", x.leads(2, -1, 0), -3);
        due.is("leads(4, 0, 0)", x.leads(4, 0, 0), -3);
        due.is("leads(7, 0, 0)", x.leads(7, 0, 0), -3);
        for (int p : NO_PLACES) {
            due.is("leads(" + p + ", 0, 0)", x.leads(p, 0, 0), -3);
        }
    }

    private static void what() {
        WordSchool x = full(14);
        due.is("what(3, 0, 0)", x.what(3, 0, 0), 1);
        due.is("what(3, 0, 1)", x.what(3, 0, 1), 2);
        x.take(3, 0, 1, -1);
        due.is("a MISSING TAKE has an ACT", x.what(3, 0, 1), 2);
        due.is("what(3, 0, 2)", x.what(3, 0, 2), -1);
        due.is("what(3, 0, -1)", x.what(3, 0, -1), -1);
        due.is("what(3, 1, 0)", x.what(3, 1, 0), -1);
        x.cut(3, 0);
        due.is("what(3, 0, 0)", x.what(3, 0, 0), -1);
        int[] others = {0, 1, 2, 4, 7, -1, 16};
        for (int p : others) {
            due.is("what(" + p + ", 0, 0)", x.what(p, 0, 0), -1);
        }
    }

    private static void says() {
        WordSchool x = full(15);
        due.is("says(1, 0)", x.says(1, 0), 7);
        due.is("says(1, 1)", x.says(1, 1), 2);
        due.is("says(1, 2)", x.says(1, 2), -1);
        due.is("says(1, -1)", x.says(1, -1), -1);
        int[] others = {4, 5, 6, 7, -1, 16};
        for (int p : others) {
            due.is("says(" + p + ", 0)", x.says(p, 0), -1);
        }
    }

    private static void answer() {
        WordSchool x = full(16);
        due.is("the empty word", x.answer(1, 1), 7);
        due.is("one SIGN", x.answer(1, 4), 2);
        due.is("a SIGN that leads back", x.answer(1, 5), 7);
        due.is("a SIGN from k on", x.answer(1, 6), 8);
        due.is("30 SIGNS 0", x.answer(1, LONGEST_FIRST), 7);
        due.is("30 SIGNS 3", x.answer(1, LONGEST_LAST), 8);
        due.is("MISSING", x.answer(2, 5), 8);
        due.is("behind MISSING", x.answer(2, Due.w("10")), 8);
        due.is("COUNT up", x.answer(3, Due.w("000")), 1);
        due.is("COUNT above 3", x.answer(3, Due.w("0000")), 8);
        due.is("COUNT down", x.answer(3, Due.w("000111")), 1);
        due.is("COUNT below 0", x.answer(3, Due.w("0001111")), 8);
        due.is("again up", x.answer(3, Due.w("00011000")), 8);
        due.is("not at 3 again", x.answer(3, Due.w("0001100")), 1);
        x.act(3, 0, 1, 3);
        due.is("ACT 3 at 0", x.answer(3, Due.w("111")), 1);
        due.is("ACT 3 at 1", x.answer(3, Due.w("01")), 8);
        x.act(3, 0, 1, 0);
        due.is("ACT 0 at 3", x.answer(3, Due.w("00010")), 8);
        due.is("ACT 0 leaves it", x.answer(3, Due.w("0101011")), 1);
        x.row(2, 0, 0);
        due.is("a ROW of none", x.answer(2, 4), 8);
        x.cut(2, 0);
        due.is("no ROW", x.answer(2, 4), 8);
        due.is("no ROW, the empty word", x.answer(2, 1), 7);
        for (int p = 4; p < 7; p++) {
            due.is("a TEACHER", x.answer(p, 1), 7);
            due.is("a TEACHER, beyond its LIMIT", x.answer(p, LONGEST_FIRST), 7);
            due.is("a TEACHER, NO ANSWER", x.answer(p, 7), 8);
        }
        x.forget(6, 5);
        x.forget(6, 7);
        due.is("FORGOTTEN", x.answer(6, 5), 9);
        due.is("FORGOTTEN, of NO ANSWER", x.answer(6, 7), 9);
        due.is("another word", x.answer(6, 4), 2);
        due.is("another TEACHER", x.answer(5, 5), 7);
        for (long word : NO_WORDS) {
            due.is("answer(1, " + word + ")", x.answer(1, word), -1);
            due.is("answer(6, " + word + ")", x.answer(6, word), -1);
        }
        due.is("answer(7, 1)", x.answer(7, 1), -1);
        for (int p : NO_PLACES) {
            due.is("answer(" + p + ", 1)", x.answer(p, 1), -1);
        }
    }

    private static void count() {
        WordSchool x = full(17);
        x.machine(8, 1, 1, 4);
        x.say(8, 0, 7);
        due.is("all words of 30 SIGNS", x.count(8, 7, 30), 1L << 60);
        due.is("none of another ANSWER", x.count(8, 0, 30), 0);
        due.is("the empty word", x.count(8, 7, 0), 1);
        due.is("count(1, 7, 0)", x.count(1, 7, 0), 1);
        due.is("count(1, 2, 0)", x.count(1, 2, 0), 0);
        due.is("count(1, 2, 1)", x.count(1, 2, 1), 1);
        due.is("count(2, 2, 2)", x.count(2, 2, 2), 1);
        due.is("count(2, 7, 2)", x.count(2, 7, 2), 1);
        due.is("count(2, 7, 1)", x.count(2, 7, 1), 0);
        due.is("COUNTED, at most 3 up", x.count(3, 1, 2), 2);
        due.is("COUNTED, at most 3 up", x.count(3, 1, 4), 5);
        int[] noAnswers = {-1, 8, 9, Integer.MAX_VALUE};
        for (int v : noAnswers) {
            due.is("count(1, " + v + ", 1)", x.count(1, v, 1), -1);
        }
        due.is("n is -1", x.count(1, 7, -1), -1);
        due.is("n is 31", x.count(1, 7, 31), -1);
        int[] others = {4, 7, -1, 16};
        for (int p : others) {
            due.is("count(" + p + ", 1, 1)", x.count(p, 1, 1), -1);
        }
    }

    private static void word() {
        WordSchool x = full(18);
        x.machine(8, 1, 1, 4);
        x.say(8, 0, 7);
        long before = ((1L << 60) - 1) / 3;
        due.is("word 0", x.word(8, 7, 0), 1);
        due.is("word 1", x.word(8, 7, 1), 4);
        due.is("word 5", x.word(8, 7, 5), 16);
        due.is("the first of 30 SIGNS", x.word(8, 7, before), LONGEST_FIRST);
        due.is("the last of 30 SIGNS", x.word(8, 7, before + (1L << 60) - 1), LONGEST_LAST);
        due.is("not so many", x.word(8, 7, before + (1L << 60)), -1);
        due.is("not so many", x.word(8, 7, Long.MAX_VALUE), -1);
        due.is("none at all", x.word(8, 0, 0), -1);
        due.is("word(1, 2, 0)", x.word(1, 2, 0), 4);
        due.is("word(1, 2, 1)", x.word(1, 2, 1), Due.w("01"));
        due.is("word(1, 2, 2)", x.word(1, 2, 2), Due.w("10"));
        due.is("word(3, 1, 2)", x.word(3, 1, 2), Due.w("00"));
        due.is("word(3, 1, 3)", x.word(3, 1, 3), Due.w("01"));
        x.machine(9, 2, 1, 2);
        x.cut(9, 0);
        due.is("one word alone", x.word(9, 0, 0), 1);
        due.is("one word alone", x.word(9, 0, 1), -1);
        due.is("i is -1", x.word(1, 2, -1), -1);
        due.is("i is MIN", x.word(1, 2, Long.MIN_VALUE), -1);
        due.is("v is -1", x.word(1, -1, 0), -1);
        due.is("v is 8", x.word(1, 8, 0), -1);
        int[] others = {4, 7, -1, 16};
        for (int p : others) {
            due.is("word(" + p + ", 0, 0)", x.word(p, 0, 0), -1);
        }
    }

    private static void place() {
        WordSchool x = full(19);
        x.machine(8, 1, 1, 4);
        long before = ((1L << 60) - 1) / 3;
        due.is("the empty word", x.place(8, 1), 0);
        due.is("the last of all", x.place(8, LONGEST_LAST), before + (1L << 60) - 1);
        for (int p = 0; p < 4; p++) {
            for (int v = 0; v < 8; v++) {
                for (long i = 0; i < 40; i++) {
                    long word = x.word(p, v, i);
                    due.is("place(" + p + ", " + word + ")", x.place(p, word), word == -1 ? -1 : i);
                }
            }
        }
        due.is("NO ANSWER", x.place(2, 5), -1);
        for (long word : NO_WORDS) {
            due.is("place(8, " + word + ")", x.place(8, word), -1);
        }
        int[] others = {4, 7, -1, 16};
        for (int p : others) {
            due.is("place(" + p + ", 1)", x.place(p, 1), -1);
        }
    }

    private static void differ() {
        WordSchool x = full(20);
        due.is("a machine and itself", x.differ(1, 1), 0);
        due.is("the empty word", x.differ(0, 1), 1);
        due.is("one ANSWER, and NO ANSWER", x.differ(1, 2), 5);
        due.lay(8, 2, 4, "710--", "201--");
        due.is("ALIKE, with another k and KIND", x.differ(1, 8), 0);
        x.take(8, 1, 3, 0);
        due.is("an ANSWER by one of them alone", x.differ(1, 8), Due.w("03"));
        due.is("an ANSWER by the other", x.differ(8, 1), Due.w("03"));
        longDiffer(x);
        x.machine(10, 3, 14, 2);
        for (int s = 0; s < 14; s++) {
            x.take(10, s, 0, (s + 1) % 14);
            x.take(10, s, 1, -1);
        }
        due.is("14 pairs are not GREAT", x.differ(10, 10), 0);
        x.act(10, 13, 0, 1);
        due.is("GREAT", x.differ(10, 10), -1);
        due.is("GREAT", x.differ(1, 10), -1);
        due.is("GREAT", x.differ(10, 1), -1);
        x.act(10, 13, 0, 2);
        due.is("an ACT that can't be makes no pair", x.differ(10, 10), 0);
        int[] others = {4, 7, -1, 16};
        for (int p : others) {
            due.is("differ(1, " + p + ")", x.differ(1, p), -1);
            due.is("differ(" + p + ", 1)", x.differ(p, 1), -1);
        }
    }

    /** Rings of 13 and 14 STATES that first answer unlike behind as many SIGNS as can be. */
    private static void longDiffer(WordSchool x) {
        x.machine(11, 2, 13, 1);
        x.machine(12, 2, 14, 1);
        for (int s = 0; s < 13; s++) {
            x.take(11, s, 0, (s + 1) % 13);
        }
        for (int s = 0; s < 14; s++) {
            x.take(12, s, 0, (s + 1) % 14);
        }
        due.is("rings that answer 0 alone", x.differ(11, 12), 0);
        x.say(11, 12, 1);
        x.say(12, 12, 1);
        due.is("13 steps and 12", x.differ(11, 12), 1L << 50);
    }

    /** ASKS leave status() as it is, also where they answer NONE. */
    private static void statusStays() {
        WordSchool x = full(42);
        due.refused("lift(7)", x.lift(7), Due.MISSING);
        x.kind(0);
        x.kind(16);
        x.size(0, 0);
        x.leads(16, 0, 0);
        x.what(0, 0, 0);
        x.says(0, 0);
        x.answer(0, 1);
        x.answer(16, 1);
        x.count(0, 0, 0);
        x.count(0, 8, 0);
        x.word(0, 0, 0);
        x.place(0, 1);
        x.differ(0, 1);
        x.suite(0, 0);
        x.suite(0, 3);
        x.passes(0, 1, 0);
        x.ahead(0);
        x.behind(0);
        x.cell(0, 0, 0);
        x.told();
        x.guesses();
        x.fits(0);
        due.is("status()", x.status(), Due.MISSING);
        due.is("status()", x.status(), Due.MISSING);
    }

    public static void main(String[] args) {
        kind();
        size();
        leads();
        what();
        says();
        answer();
        count();
        word();
        place();
        differ();
        statusStays();
        due.end();
    }
}
