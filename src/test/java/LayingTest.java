/** Promises 1 to 10: a new object, and laying machines. */
public final class LayingTest {
    private static final int MAX = Integer.MAX_VALUE;
    private static final int MIN = Integer.MIN_VALUE;
    private static final Due due = new Due("LayingTest");

    private static void newObject() {
        WordSchool x = due.promise(1);
        due.is("NONE", WordSchool.NONE, -1);
        due.is("status()", x.status(), 0);
        for (int p = 0; p < 16; p++) {
            due.is("kind", x.kind(p), -1);
            due.is("size", x.size(p, 0), -1);
            due.is("fits", x.fits(p), -2);
            due.refused("lift", x.lift(p), Due.MISSING);
            due.refused("raise", x.raise(p), Due.MISSING);
        }
        due.is("ahead(0)", x.ahead(0), -1);
        due.is("behind(0)", x.behind(0), -1);
        due.is("cell(0, -1, 0)", x.cell(0, -1, 0), -1);
        due.is("told()", x.told(), 0);
        due.is("guesses()", x.guesses(), 0);
        due.refused("exam()", x.exam(), Due.MISSING);
        due.refused("tell(1)", x.tell(1), Due.MISSING);
        due.refused("guess(0)", x.guess(0), Due.MISSING);
        due.refused("fewest(0)", x.fewest(0), Due.MISSING);
        due.done("unknow()", x.unknow(), 0);
    }

    private static void machine() {
        WordSchool x = due.promise(2);
        for (int kind = 0; kind < 4; kind++) {
            due.done("machine(0, kind, 14, 4)", x.machine(0, kind, 14, 4), 14);
            due.machine(0, kind, 4, "00000", "00000", "00000", "00000", "00000", "00000", "00000",
                "00000", "00000", "00000", "00000", "00000", "00000", "00000");
            due.is("what(0, 13, 3)", x.what(0, 13, 3), kind == 3 ? 0 : -1);
            due.done("machine(15, kind, 1, 1)", x.machine(15, kind, 1, 1), 1);
            due.machine(15, kind, 1, "00");
        }
        int[] noPlaces = {-1, 16, MAX, MIN};
        for (int p : noPlaces) {
            due.refused("machine(" + p + ", 9, -1, 9)", x.machine(p, 9, -1, 9), Due.BEYOND);
        }
        int[] noKinds = {-1, 4, MAX, MIN};
        for (int kind : noKinds) {
            due.refused("machine(0, " + kind + ", -1, 9)", x.machine(0, kind, -1, 9), Due.KIND);
        }
        due.refused("machine(0, 0, -1, 5)", x.machine(0, 0, -1, 5), Due.NEGATIVE);
        due.refused("machine(0, 0, 15, -1)", x.machine(0, 0, 15, -1), Due.NEGATIVE);
        due.refused("machine(0, 0, MIN, 1)", x.machine(0, 0, MIN, 1), Due.NEGATIVE);
        int[][] beyond = {{0, 1}, {15, 1}, {1, 0}, {1, 5}, {MAX, 1}, {1, MAX}};
        for (int[] nk : beyond) {
            due.refused("machine(0, 0, " + nk[0] + ", " + nk[1] + ")", x.machine(0, 0, nk[0], nk[1]), Due.BEYOND);
        }
        due.is("the machine that was there stays", x.size(0, 0), 14);
        due.lay(1, 3, 2, "710", "201");
        due.done("act", x.act(1, 0, 0, 2), 0);
        due.done("cut", x.cut(1, 1), 0);
        due.done("a machine in place of one", x.machine(1, 3, 2, 2), 2);
        due.machine(1, 3, 2, "000", "000");
        due.is("what is new too", x.what(1, 0, 0), 0);
        due.done("teacher(2, ..)", x.teacher(2, 2, 1, 5), 0);
        due.done("a machine in place of a TEACHER", x.machine(2, 0, 1, 1), 1);
        due.is("kind(2)", x.kind(2), 0);
    }

    private static void row() {
        WordSchool x = due.promise(3);
        due.lay(0, 2, 3, "1012", "2120", "0000");
        for (int n = 0; n <= 3; n++) {
            due.done("row(0, 1, n)", x.row(0, 1, n), n);
            due.machine(0, 2, 3, "1012", new String[] {"2", "2-", "2--", "2---"}[n], "0000");
        }
        due.lay(1, 3, 2, "100");
        x.act(1, 0, 1, 3);
        due.done("row(1, 0, 2)", x.row(1, 0, 2), 2);
        due.is("ACTS are 0", x.what(1, 0, 1), 0);
        due.done("cut", x.cut(1, 0), 0);
        due.done("a row where none was", x.row(1, 0, 1), 1);
        due.machine(1, 3, 2, "1-");

        due.refused("row(16, ..)", x.row(16, 0, 0), Due.BEYOND);
        due.refused("row(-1, ..)", x.row(-1, 0, 0), Due.BEYOND);
        due.refused("row(5, ..)", x.row(5, 9, -1), Due.MISSING);
        x.teacher(6, 0, 0, 0);
        due.refused("row of a TEACHER", x.row(6, 9, -1), Due.KIND);
        x.machine(2, 0, 2, 2);
        x.machine(3, 1, 2, 2);
        due.refused("row of WHOLE", x.row(2, 9, -1), Due.KIND);
        due.refused("row of MOORE", x.row(3, 0, 1), Due.KIND);
        due.refused("row(0, 3, -1)", x.row(0, 3, -1), Due.BEYOND);
        due.refused("row(0, -1, 1)", x.row(0, -1, 1), Due.BEYOND);
        due.refused("row(0, 0, -1)", x.row(0, 0, -1), Due.NEGATIVE);
        due.refused("row(0, 0, MIN)", x.row(0, 0, MIN), Due.NEGATIVE);
        due.refused("row(0, 0, 4)", x.row(0, 0, 4), Due.BEYOND);
        due.machine(0, 2, 3, "1012", "2---", "0000");
    }

    private static void cut() {
        WordSchool x = due.promise(4);
        due.lay(0, 2, 2, "110", "201");
        due.lay(1, 3, 2, "110", "201");
        for (int p = 0; p < 2; p++) {
            due.done("cut", x.cut(p, 1), 0);
            due.done("cut again", x.cut(p, 1), 0);
            due.machine(p, 2 + p, 2, "110", "2");
            due.is("an ANSWER stays", x.answer(p, Due.w("0")), 2);
            due.is("a word that goes on", x.answer(p, Due.w("00")), 8);
        }
        due.refused("cut(16, 0)", x.cut(16, 0), Due.BEYOND);
        due.refused("cut(5, 0)", x.cut(5, 9), Due.MISSING);
        x.teacher(6, 0, 0, 0);
        due.refused("cut of a TEACHER", x.cut(6, 9), Due.KIND);
        x.machine(2, 0, 2, 2);
        x.machine(3, 1, 2, 2);
        due.refused("cut of WHOLE", x.cut(2, 2), Due.KIND);
        due.refused("cut of MOORE", x.cut(3, 0), Due.KIND);
        due.refused("cut(0, 2)", x.cut(0, 2), Due.BEYOND);
        due.refused("cut(0, -1)", x.cut(0, -1), Due.BEYOND);
    }

    private static void take() {
        WordSchool x = due.promise(5);
        x.machine(0, 0, 3, 2);
        x.machine(1, 2, 3, 2);
        x.machine(2, 3, 3, 2);
        x.machine(3, 1, 3, 2);
        for (int p = 0; p < 4; p++) {
            due.done("take", x.take(p, 2, 1, 2), 0);
            due.is("leads", x.leads(p, 2, 1), 2);
        }
        x.act(2, 2, 1, 3);
        due.done("MISSING", x.take(1, 2, 1, -1), 0);
        due.done("MISSING", x.take(2, 2, 1, -1), 0);
        due.is("leads", x.leads(1, 2, 1), -1);
        due.is("leads", x.leads(2, 2, 1), -1);
        due.is("the ACT stays", x.what(2, 2, 1), 3);

        due.refused("take(16, ..)", x.take(16, 0, 0, 0), Due.BEYOND);
        due.refused("take(5, ..)", x.take(5, 9, 9, 9), Due.MISSING);
        x.teacher(6, 0, 0, 0);
        due.refused("take of a TEACHER", x.take(6, 9, 9, 9), Due.KIND);
        x.cut(1, 0);
        due.refused("no such STATE", x.take(1, 3, 0, 0), Due.BEYOND);
        due.refused("no such STATE", x.take(1, -1, 0, 0), Due.BEYOND);
        due.refused("no ROW comes ahead of a and t", x.take(1, 0, 9, 9), Due.MISSING);
        x.row(1, 0, 1);
        due.refused("no TAKE", x.take(1, 0, 1, 0), Due.BEYOND);
        due.refused("no TAKE", x.take(1, 0, -1, 0), Due.BEYOND);
        due.refused("t is -2", x.take(1, 0, 0, -2), Due.BEYOND);
        due.refused("t is n", x.take(1, 0, 0, 3), Due.BEYOND);
        due.refused("a comes ahead of t", x.take(0, 0, 2, -1), Due.BEYOND);
        due.refused("t of WHOLE is -2", x.take(0, 0, 0, -2), Due.BEYOND);
        due.refused("t of WHOLE is -1", x.take(0, 0, 0, -1), Due.KIND);
        due.refused("t of MOORE is -1", x.take(3, 0, 0, -1), Due.KIND);
        due.machine(0, 0, 2, "000", "000", "002");
    }

    private static void say() {
        WordSchool x = due.promise(6);
        for (int kind = 0; kind < 4; kind++) {
            int most = kind == 0 ? 1 : 7;
            x.machine(kind, kind, 2, 1);
            due.done("say", x.say(kind, 1, most), 0);
            due.is("says", x.says(kind, 1), most);
            due.is("the other one", x.says(kind, 0), 0);
            due.refused("say too much", x.say(kind, 1, most + 1), Due.BEYOND);
            due.refused("say -1", x.say(kind, 1, -1), Due.BEYOND);
            due.refused("say MAX", x.say(kind, 0, MAX), Due.BEYOND);
            due.is("says", x.says(kind, 1), most);
            due.refused("no STATE", x.say(kind, 2, 0), Due.BEYOND);
            due.refused("no STATE", x.say(kind, -1, 0), Due.BEYOND);
        }
        due.done("say again", x.say(3, 1, 0), 0);
        due.is("says", x.says(3, 1), 0);
        due.refused("say(16, ..)", x.say(16, 0, 0), Due.BEYOND);
        due.refused("say(5, ..)", x.say(5, 9, 9), Due.MISSING);
        x.teacher(6, 0, 0, 0);
        due.refused("say of a TEACHER", x.say(6, 9, 9), Due.KIND);
    }

    private static void act() {
        WordSchool x = due.promise(7);
        x.machine(0, 3, 2, 2);
        for (int h = 0; h < 4; h++) {
            due.done("act", x.act(0, 1, 1, h), 0);
            due.is("what", x.what(0, 1, 1), h);
            due.is("another TAKE", x.what(0, 1, 0), 0);
        }
        due.refused("h is 4", x.act(0, 1, 1, 4), Due.BEYOND);
        due.refused("h is -1", x.act(0, 1, 1, -1), Due.BEYOND);
        due.is("what", x.what(0, 1, 1), 3);
        due.refused("no STATE", x.act(0, 2, 0, 0), Due.BEYOND);
        due.refused("no TAKE", x.act(0, 0, 2, 0), Due.BEYOND);
        due.refused("no TAKE", x.act(0, 0, -1, 0), Due.BEYOND);
        x.cut(0, 0);
        due.refused("no ROW", x.act(0, 0, 9, 9), Due.MISSING);
        x.row(0, 0, 1);
        due.done("the ACT of a MISSING TAKE", x.act(0, 0, 0, 2), 0);
        due.is("what", x.what(0, 0, 0), 2);
        for (int kind = 0; kind < 3; kind++) {
            x.machine(1, kind, 2, 2);
            due.refused("act of KIND " + kind, x.act(1, 9, 9, 9), Due.KIND);
        }
        due.refused("act(-1, ..)", x.act(-1, 0, 0, 0), Due.BEYOND);
        due.refused("act(5, ..)", x.act(5, 9, 9, 9), Due.MISSING);
        x.teacher(6, 0, 0, 0);
        due.refused("act of a TEACHER", x.act(6, 9, 9, 9), Due.KIND);
    }

    private static void copy() {
        WordSchool x = due.promise(8);
        due.lay(0, 1, 4, "00123", "13210", "20000", "30000");
        due.done("copy", x.copy(0, 0, 1, 2, 3), 0);
        due.machine(0, 1, 4, "00123", "13210", "21230", "30000");
        due.done("within one STATE, forward", x.copy(0, 1, 1, 1, 3), 0);
        due.machine(0, 1, 4, "00123", "12100", "21230", "30000");
        due.done("n is 0", x.copy(0, 0, 4, 1, 0), 0);
        due.machine(0, 1, 4, "00123", "12100", "21230", "30000");
        due.done("all", x.copy(0, 0, 0, 3, 4), 0);
        due.machine(0, 1, 4, "00123", "12100", "21230", "30123");

        due.lay(1, 3, 3, "0010", "1000");
        x.act(1, 0, 1, 1);
        x.act(1, 0, 2, 2);
        x.act(1, 1, 2, 3);
        due.done("with their ACTS", x.copy(1, 0, 1, 1, 1), 0);
        due.machine(1, 3, 3, "0010", "1100");
        due.is("what", x.what(1, 1, 0), 1);
        due.is("what", x.what(1, 1, 1), 0);
        due.is("what", x.what(1, 1, 2), 3);
        x.take(1, 0, 2, -1);
        due.done("a MISSING one", x.copy(1, 0, 2, 1, 1), 0);
        due.is("leads", x.leads(1, 1, 0), -1);
        due.is("what", x.what(1, 1, 0), 2);
        copyRefused(x);
    }

    private static void copyRefused(WordSchool x) {
        due.refused("copy(16, ..)", x.copy(16, 0, 0, 0, 0), Due.BEYOND);
        due.refused("copy(5, ..)", x.copy(5, 9, 9, 9, 9), Due.MISSING);
        x.teacher(6, 0, 0, 0);
        due.refused("copy of a TEACHER", x.copy(6, 9, 9, 9, 9), Due.KIND);
        due.lay(2, 2, 3, "0000", "0111", "1222");
        x.cut(2, 0);
        x.row(2, 1, 2);
        due.refused("no STATE s", x.copy(2, 3, 0, 0, 0), Due.BEYOND);
        due.refused("no STATE t", x.copy(2, 0, 0, -1, 0), Due.BEYOND);
        due.refused("no ROW of s", x.copy(2, 0, -1, 1, -1), Due.MISSING);
        due.refused("no ROW of t", x.copy(2, 1, -1, 0, -1), Due.MISSING);
        due.refused("i is -1", x.copy(2, 2, -1, 1, 0), Due.BEYOND);
        due.refused("n is -1", x.copy(2, 2, 0, 1, -1), Due.BEYOND);
        due.refused("s too short", x.copy(2, 1, 1, 2, 2), Due.BEYOND);
        due.refused("t too short", x.copy(2, 2, 0, 1, 3), Due.BEYOND);
        due.refused("i and n go round", x.copy(2, 2, MAX, 1, 1), Due.BEYOND);
        due.refused("i and n go round", x.copy(2, 2, 1, 1, MAX), Due.BEYOND);
        due.refused("i and n go round", x.copy(2, 2, MAX, 1, MAX), Due.BEYOND);
        due.refused("i is MIN", x.copy(2, 2, MIN, 1, MAX), Due.BEYOND);
        due.done("as many as there are", x.copy(2, 2, 1, 1, 2), 0);
        due.machine(2, 2, 3, "0", "022", "1222");
    }

    /** The numbers of draw, kept apart from the class: x, then its upper 16 bits by m. */
    private static long seed;

    private static int next(int m) {
        seed = (seed * 1103515245L + 12345L) & 0xFFFFFFFFL;
        return (int) ((seed >> 16) % m);
    }

    private static void draw() {
        WordSchool x = due.promise(9);
        int[] seeds = {0, 1, 77, -1, MAX, MIN};
        for (int kind = 0; kind < 4; kind++) {
            for (int first : seeds) {
                x.machine(0, kind, 5, 3);
                if (kind > 1) {
                    x.cut(0, 1);
                    x.row(0, 2, 2);
                    x.row(0, 3, 0);
                }
                due.done("draw", x.draw(0, first), 0);
                seed = first & 0xFFFFFFFFL;
                int[] lengths = kind > 1 ? new int[] {3, 0, 2, 0, 3} : new int[] {3, 3, 3, 3, 3};
                for (int s = 0; s < 5; s++) {
                    for (int a = 0; a < lengths[s]; a++) {
                        due.is("leads", x.leads(0, s, a), next(5));
                        due.is("what", x.what(0, s, a), kind == 3 ? next(4) : -1);
                    }
                    due.is("leads beyond", x.leads(0, s, lengths[s]), -2);
                    due.is("says", x.says(0, s), next(kind == 0 ? 2 : 8));
                }
            }
        }
        due.refused("draw(16, 1)", x.draw(16, 1), Due.BEYOND);
        due.refused("draw(5, 1)", x.draw(5, 1), Due.MISSING);
        x.machine(0, 0, 1, 1);
        x.teacher(6, 0, 0, 0);
        due.refused("draw of a TEACHER", x.draw(6, 1), Due.KIND);
    }

    private static void lift() {
        WordSchool x = due.promise(10);
        x.machine(15, 0, 1, 1);
        x.teacher(0, 1, 15, 3);
        x.blame(15, 4);
        due.done("lift a machine", x.lift(15), 0);
        due.is("kind(15)", x.kind(15), -1);
        due.done("lift a TEACHER", x.lift(0), 0);
        due.is("kind(0)", x.kind(0), -1);
        due.refused("lift again", x.lift(15), Due.MISSING);
        due.refused("lift(16)", x.lift(16), Due.BEYOND);
        due.refused("lift(-1)", x.lift(-1), Due.BEYOND);
        due.done("a FAILURE is not lifted", x.raise(15), 4);
    }

    public static void main(String[] args) {
        newObject();
        machine();
        row();
        cut();
        take();
        say();
        act();
        copy();
        draw();
        lift();
        due.end();
    }
}
