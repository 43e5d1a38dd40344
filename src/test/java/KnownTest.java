/** Promises 36 to 39: KNOWN words. */
public final class KnownTest {
    private static final Due due = new Due("KnownTest");
    private static final long[] NO_WORDS = {0, -1, 2, 8, 1L << 61, Long.MAX_VALUE, Long.MIN_VALUE};

    private static void know() {
        WordSchool x = due.promise(36);
        due.lay(0, 2, 1, "71", "2-");
        x.teacher(1, 2, 0, 0);
        due.done("know", x.know(1, 1), 7);
        due.done("know", x.know(1, 4), 2);
        due.refused("NO ANSWER", x.know(1, 16), Due.MISSING);
        due.refused("KNOWN already", x.know(1, 4), Due.ALIKE);
        x.forget(1, 4);
        due.refused("FORGOTTEN comes ahead of KNOWN", x.know(1, 4), Due.MISSING);
        for (long word : NO_WORDS) {
            due.refused("know(1, " + word + ")", x.know(1, word), Due.BEYOND);
        }
        due.refused("no PLACE", x.know(16, 0), Due.BEYOND);
        due.refused("nothing", x.know(9, 0), Due.MISSING);
        due.refused("a machine", x.know(0, 0), Due.KIND);
        due.done("two are KNOWN", x.unknow(), 2);
        x.machine(2, 0, 1, 4);
        x.teacher(3, 0, 2, 0);
        x.teacher(4, 1, 2, 0);
        for (int i = 0; i < 12; i++) {
            due.done("know", x.know(3 + i % 2, 64 + i), 0);
        }
        due.refused("KNOWN comes ahead of 12", x.know(3, 64), Due.ALIKE);
        due.refused("12 are KNOWN", x.know(3, 4), Due.FULL);
        due.done("12 are KNOWN", x.unknow(), 12);
    }

    private static void unknow() {
        WordSchool x = due.promise(37);
        due.done("none", x.unknow(), 0);
        x.machine(0, 0, 1, 1);
        x.teacher(1, 0, 0, 0);
        x.know(1, 1);
        x.know(1, 4);
        due.refused("a refused ACT", x.know(1, 4), Due.ALIKE);
        due.done("two", x.unknow(), 2);
        due.done("none", x.unknow(), 0);
        due.done("the word is not KNOWN any more", x.know(1, 4), 0);
        x.say(0, 0, 1);
        due.is("fits", x.fits(0), 0);
        x.unknow();
        due.is("fits", x.fits(0), -1);
    }

    private static void fewest() {
        WordSchool x = due.promise(38);
        due.refused("no PLACE comes first", x.fewest(16), Due.BEYOND);
        due.refused("nothing is KNOWN", x.fewest(15), Due.MISSING);
        due.lay(0, 1, 2, "710", "201");
        x.teacher(1, 0, 0, 0);
        x.know(1, 1);
        due.done("one STATE", x.fewest(15), 1);
        due.machine(15, 1, 1, "70");
        x.know(1, 5);
        due.done("one STATE, k 2", x.fewest(15), 1);
        due.machine(15, 1, 2, "700");
        x.know(1, 4);
        // by 0 to STATE 1, by 1 to STATE 0; the TAKES of STATE 1 are free
        due.done("two STATES", x.fewest(15), 2);
        due.machine(15, 1, 2, "710", "200");
        x.know(1, Due.w("01"));
        due.done("two STATES", x.fewest(15), 2);
        due.machine(15, 1, 2, "710", "201");
        x.unknow();
        due.done("know", x.know(1, Due.w("1")), 7);
        due.done("know", x.know(1, 1), 7);
        due.done("the first KNOWN word has the greatest SIGN", x.fewest(15), 1);
        due.machine(15, 1, 2, "700");
        x.unknow();
        x.know(1, Due.w("0010"));
        x.know(1, Due.w("01"));
        x.know(1, 1);
        x.know(1, Due.w("00"));
        // 7 is the answer to the empty word and 00, 2 to 01 and 0010: 0 may stay at STATE 0, then 1 has
        // to lead to STATE 1, and 0 has to stay there
        due.done("longer words first", x.fewest(15), 2);
        due.machine(15, 1, 2, "701", "210");
        due.done("in place of the TEACHER", x.fewest(1), 2);
        due.is("kind(1)", x.kind(1), 1);
        free(x);
    }

    /** STATES at which no KNOWN word ends answer 0. */
    private static void free(WordSchool x) {
        x.unknow();
        due.lay(0, 0, 1, "01", "02", "12");
        x.teacher(1, 0, 0, 0);
        x.know(1, Due.w("0"));
        due.done("one STATE", x.fewest(2), 1);
        x.know(1, Due.w("00"));
        // one STATE is too few; 0 leads to 1, and back: the KNOWN word 00 ends at 0
        due.done("two STATES", x.fewest(2), 2);
        due.machine(2, 0, 1, "11", "00");
        x.know(1, Due.w("0000"));
        due.done("two STATES", x.fewest(2), 2);
        x.know(1, Due.w("000"));
        due.done("three STATES", x.fewest(2), 3);
        due.machine(2, 0, 1, "01", "02", "12");
    }

    /** A word of SIGNS 0 and one of another length, both with unlike answers, by rings of p STATES. */
    private static void fewestFull() {
        WordSchool x = due.promise(38);
        // k is 1: 5 to the power of 5 is 3125, 6 to the power of 6 is 46656
        x.machine(0, 1, 6, 1);
        for (int s = 0; s < 6; s++) {
            x.take(0, s, 0, Math.min(5, s + 1));
            x.say(0, s, s);
        }
        x.teacher(1, 0, 0, 0);
        for (int i = 0; i < 5; i++) {
            due.done("know", x.know(1, 1L << 2 * i), i);
        }
        due.done("5 STATES", x.fewest(2), 5);
        due.machine(2, 1, 1, "01", "12", "23", "34", "40");
        x.know(1, 1L << 10);
        due.refused("6 STATES, k 1", x.fewest(2), Due.FULL);
        due.is("what lay there stays", x.size(2, 0), 5);
        // 3 STATES: k 2 and 3 can be looked at, k 4 can't
        for (int k = 2; k <= 4; k++) {
            x.unknow();
            x.machine(3, 1, 3, k);
            x.take(3, 0, 0, 1);
            x.take(3, 0, k - 1, 2);
            x.say(3, 1, 1);
            x.say(3, 2, 2);
            x.teacher(4, 0, 3, 0);
            due.done("know", x.know(4, 1), 0);
            due.done("know", x.know(4, 4), 1);
            due.done("know", x.know(4, 4 + k - 1), 2);
            if (k < 4) {
                due.done("3 STATES, k " + k, x.fewest(5), 3);
                due.is("size", x.size(5, 1), k);
                due.is("fits", x.fits(5), -1);
            } else {
                due.refused("3 STATES, k 4", x.fewest(5), Due.FULL);
            }
        }
        // two STATES for k 4: 2 to the power of 8
        x.unknow();
        due.lay(6, 0, 4, "01000", "10111");
        x.teacher(7, 0, 6, 0);
        x.know(7, 1);
        x.know(7, Due.w("0"));
        x.know(7, Due.w("03"));
        x.know(7, Due.w("3"));
        x.know(7, Due.w("00"));
        due.done("2 STATES, k 4", x.fewest(8), 2);
        due.machine(8, 0, 4, "01000", "10001");
    }

    /** Words with unlike answers that no small table tells apart, without unlike answers being many. */
    private static void fewestByWords() {
        WordSchool x = due.promise(38);
        // 0 to the power of 30 is YES, all lesser ones that are asked are not
        x.machine(0, 0, 7, 1);
        for (int s = 0; s < 7; s++) {
            x.take(0, s, 0, (s + 1) % 7);
        }
        x.say(0, 2, 1);
        x.teacher(1, 0, 0, 0);
        long[] words = {1L << 60, 1L << 58, 1L << 56, 1L << 54, 1L << 52, 1L << 50, 1L << 48, 1L << 46, 1L << 44, 1L << 42, 1L << 40, 1L << 38};
        for (int i = 0; i < 12; i++) {
            due.done("know", x.know(1, words[i]), (30 - i) % 7 == 2 ? 1 : 0);
        }
        due.refused("no table of up to 5 STATES", x.fewest(2), Due.FULL);
        due.is("nothing lies there", x.kind(2), -1);
    }

    private static void fits() {
        WordSchool x = due.promise(39);
        due.lay(0, 2, 1, "71", "22", "3-");
        due.is("nothing is KNOWN", x.fits(0), -1);
        x.teacher(1, 0, 0, 0);
        x.know(1, 4);
        x.know(1, 1);
        x.know(1, 16);
        due.is("all fit", x.fits(0), -1);
        x.say(0, 2, 4);
        due.is("number 2", x.fits(0), 2);
        x.say(0, 0, 4);
        due.is("number 1", x.fits(0), 1);
        x.cut(0, 0);
        due.is("NO ANSWER", x.fits(0), 0);
        int[] others = {1, 9, -1, 16};
        for (int p : others) {
            due.is("fits(" + p + ")", x.fits(p), -2);
        }
    }

    public static void main(String[] args) {
        know();
        unknow();
        fewest();
        fewestFull();
        fewestByWords();
        fits();
        due.end();
    }
}
