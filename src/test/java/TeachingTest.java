/** Promises 25 and 26: TEACHERS. */
public final class TeachingTest {
    private static final Due due = new Due("TeachingTest");
    private static final long[] NO_WORDS = {0, -1, 2, 8, 1L << 61, Long.MAX_VALUE, Long.MIN_VALUE};

    private static void teacher() {
        WordSchool x = due.promise(25);
        due.lay(0, 1, 2, "710", "201", "322");
        for (int kind = 0; kind < 3; kind++) {
            due.done("teacher(15, ..)", x.teacher(15, kind, 0, 30), 0);
            due.is("kind(15)", x.kind(15), 4 + kind);
            due.is("LIMIT", x.size(15, 0), 30);
            due.done("LIMIT 0", x.teacher(15, kind, 0, 0), 0);
            due.is("LIMIT", x.size(15, 0), kind == 0 ? 30 : 0);
            due.is("nothing FORGOTTEN", x.size(15, 1), 0);
        }
        x.forget(15, 4);
        due.done("a new one", x.teacher(15, 2, 0, 4), 0);
        due.is("nothing FORGOTTEN", x.size(15, 1), 0);
        due.is("nothing FORGOTTEN", x.answer(15, 4), 2);
        x.say(0, 0, 5);
        due.is("the SECRET is of its own", x.answer(15, 1), 7);
        due.done("in place of its machine", x.teacher(0, 1, 0, 3), 0);
        due.is("kind(0)", x.kind(0), 5);
        due.is("answer", x.answer(0, 1), 5);
        due.refused("its SECRET is not seen", x.say(0, 0, 5), Due.KIND);
        refused(x);
    }

    private static void refused(WordSchool x) {
        x.machine(1, 3, 14, 1);
        for (int s = 0; s < 14; s++) {
            x.take(1, s, 0, (s + 1) % 14);
        }
        due.done("14 pairs", x.teacher(2, 0, 1, 0), 0);
        x.act(1, 13, 0, 1);
        due.refused("GREAT", x.teacher(2, 1, 1, 0), Due.FULL);
        due.is("what lay there stays", x.kind(2), 4);
        due.refused("no PLACE", x.teacher(16, 9, 9, -1), Due.BEYOND);
        due.refused("no PLACE", x.teacher(-1, 0, 1, 0), Due.BEYOND);
        due.refused("from no PLACE", x.teacher(3, 9, 16, -1), Due.BEYOND);
        due.refused("from nothing", x.teacher(3, 9, 9, -1), Due.MISSING);
        due.refused("from a TEACHER", x.teacher(3, 0, 2, 0), Due.KIND);
        due.refused("kind 3", x.teacher(3, 3, 1, -1), Due.KIND);
        due.refused("kind -1", x.teacher(3, -1, 1, 31), Due.KIND);
        due.refused("limit -1", x.teacher(3, 0, 1, -1), Due.NEGATIVE);
        due.refused("limit 31", x.teacher(3, 0, 1, 31), Due.BEYOND);
        due.is("nothing lies there", x.kind(3), -1);
    }

    private static void forget() {
        WordSchool x = due.promise(26);
        due.lay(0, 0, 1, "10");
        x.teacher(1, 2, 0, 3);
        long[] words = {1, 4, 5, 1L << 60, (1L << 61) - 1, 16, 64, 17};
        for (int i = 0; i < 8; i++) {
            due.is("ahead of that", x.answer(1, words[i]) == 9 ? 1 : 0, 0);
            due.done("forget", x.forget(1, words[i]), i + 1);
            due.is("FORGOTTEN", x.answer(1, words[i]), 9);
            due.is("size", x.size(1, 1), i + 1);
            due.refused("again", x.forget(1, words[i / 2]), Due.ALIKE);
        }
        due.refused("8 are FORGOTTEN", x.forget(1, 256), Due.FULL);
        due.is("answer", x.answer(1, 256), 1);
        for (long word : NO_WORDS) {
            due.refused("forget(1, " + word + ")", x.forget(1, word), Due.BEYOND);
        }
        due.refused("no PLACE", x.forget(16, 0), Due.BEYOND);
        due.refused("nothing", x.forget(5, 0), Due.MISSING);
        due.refused("a machine", x.forget(0, 0), Due.KIND);
        x.teacher(2, 0, 0, 3);
        due.refused("EXACT", x.forget(2, 0), Due.KIND);
        x.teacher(2, 1, 0, 3);
        due.refused("SHORT", x.forget(2, 4), Due.KIND);
        due.is("size", x.size(2, 1), 0);
    }

    public static void main(String[] args) {
        teacher();
        forget();
        due.end();
    }
}
