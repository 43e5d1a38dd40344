/** Promises 21 to 24: machines made of others, and SUITES. */
public final class MakingTest {
    private static final Due due = new Due("MakingTest");

    private static void least() {
        WordSchool x = due.promise(21);
        due.lay(0, 1, 2, "132", "022", "011", "733");
        due.done("STATES that no row tells apart", x.least(0, 1), 3);
        due.machine(1, 1, 2, "112", "711", "022");
        due.is("the first one stays", x.size(0, 0), 4);
        due.lay(0, 1, 2, "102", "700", "020");
        due.done("a STATE that no word gets to", x.least(0, 1), 2);
        due.machine(1, 0, 2, "101", "010");

        due.lay(2, 1, 3, "0121", "1211", "1122");
        due.done("WHOLE", x.least(2, 3), 2);
        due.machine(3, 0, 3, "0111", "1111");

        due.lay(4, 2, 4, "01---", "3-0--");
        due.done("PARTIAL, with a smaller k", x.least(4, 4), 2);
        due.machine(4, 2, 2, "01-", "3-0");

        due.lay(5, 2, 4, "5----");
        due.done("no TAKES at all", x.least(5, 5), 1);
        due.machine(5, 2, 1, "5-");
        x.machine(6, 2, 1, 3);
        x.cut(6, 0);
        due.done("no ROW", x.least(6, 6), 1);
        due.machine(6, 2, 1, "0-");
        x.machine(6, 2, 2, 3);
        x.row(6, 0, 2);
        x.take(6, 0, 1, 1);
        x.row(6, 1, 2);
        due.done("k by the greatest SIGN, not by how many", x.least(6, 6), 2);
        due.machine(6, 2, 2, "0-1", "0--");

        due.lay(7, 2, 2, "30-");
        due.done("MOORE by one SIGN", x.least(7, 7), 1);
        due.machine(7, 1, 1, "30");
        due.lay(8, 2, 2, "1-0");
        due.done("SIGN 0 is MISSING", x.least(8, 8), 1);
        due.machine(8, 2, 2, "1-0");

        due.lay(9, 1, 2, "021", "011", "122");
        due.done("numbered by first words", x.least(9, 9), 3);
        due.machine(9, 0, 2, "012", "111", "022");
        counted(x);
        leastRefused(x);
    }

    private static void counted(WordSchool x) {
        due.lay(0, 3, 2, "200");
        x.act(0, 0, 0, 1);
        x.act(0, 0, 1, 2);
        due.done("COUNTED", x.least(0, 1), 4);
        due.machine(1, 2, 2, "21-", "220", "231", "2-2");
        x.act(0, 0, 1, 3);
        due.done("COUNTED, ACT 3", x.least(0, 1), 4);
        due.machine(1, 2, 2, "210", "22-", "23-", "2--");
        due.done("in its own place", x.least(0, 0), 4);
        due.machine(0, 2, 2, "210", "22-", "23-", "2--");
        due.is("no ACTS are left", x.answer(0, Due.w("1000")), 2);
        due.is("no ACTS are left", x.answer(0, Due.w("10000")), 8);
        due.is("no ACTS are left", x.what(0, 0, 0), -1);
        due.refused("it is PARTIAL: act", x.act(0, 0, 0, 1), Due.KIND);
        due.done("it is PARTIAL: row", x.row(0, 3, 2), 2);
        due.lay(0, 3, 1, "00");
        due.done("WHOLE in place of COUNTED", x.least(0, 0), 1);
        due.refused("it is WHOLE: row", x.row(0, 0, 1), Due.KIND);
        due.refused("it is WHOLE: say", x.say(0, 0, 2), Due.BEYOND);
        due.lay(0, 3, 2, "200");
        x.act(0, 0, 0, 1);
        x.act(0, 0, 1, 3);
    }

    private static void leastRefused(WordSchool x) {
        x.machine(10, 3, 14, 1);
        for (int s = 0; s < 14; s++) {
            x.take(10, s, 0, (s + 1) % 14);
            x.say(10, s, s % 8);
        }
        due.done("14 STATES", x.least(10, 11), 14);
        x.act(10, 13, 0, 1);
        due.refused("GREAT", x.least(10, 11), Due.FULL);
        due.is("what lay there stays", x.size(11, 0), 14);
        for (int s = 0; s < 14; s++) {
            x.say(10, s, 0);
        }
        due.refused("GREAT by its pairs, not by its classes", x.least(10, 11), Due.FULL);
        due.refused("least(16, 99)", x.least(16, 99), Due.BEYOND);
        due.refused("least(12, 99)", x.least(12, 99), Due.MISSING);
        x.teacher(13, 0, 0, 0);
        due.refused("of a TEACHER", x.least(13, 99), Due.KIND);
        due.refused("to no PLACE comes ahead of GREAT", x.least(10, 16), Due.BEYOND);
        due.refused("to no PLACE", x.least(0, -1), Due.BEYOND);
        due.done("in place of a TEACHER", x.least(0, 13), 4);
        due.is("kind(13)", x.kind(13), 2);
    }

    /** At 0: words that end in SIGN 0; at 1: words of an even number of SIGNS (k = 2). */
    private static WordSchool two(int promise) {
        WordSchool x = due.promise(promise);
        due.lay(0, 0, 2, "010", "110");
        due.lay(1, 0, 2, "111", "000");
        return x;
    }

    private static void joinTwo() {
        WordSchool x = two(22);
        due.done("how 0", x.join(0, 0, 1, 2), 3);
        due.machine(2, 0, 2, "011", "020", "111");
        due.done("how 1", x.join(1, 0, 1, 2), 3);
        due.machine(2, 0, 2, "112", "100", "000");
    }

    private static void joinSmall() {
        WordSchool x = due.promise(22);
        // the word 0 alone; the word 1, with any number of 21 behind it
        due.lay(0, 2, 1, "01", "1-");
        due.lay(1, 2, 3, "0-1-", "1--0");
        due.done("how 0, K is the greater one", x.join(0, 0, 1, 2), 1);
        due.machine(2, 0, 3, "0000");
        due.done("how 1", x.join(1, 0, 1, 2), 5);
        due.machine(2, 0, 3, "0123", "1333", "1334", "0333", "0323");
    }

    private static void joinOne() {
        WordSchool x = due.promise(22);
        due.lay(0, 2, 2, "01-", "1-0");
        due.done("how 2: NO ANSWER is not YES", x.join(2, 0, 99, 2), 3);
        due.machine(2, 0, 2, "112", "020", "122");
        due.done("how 3: 0(10)* twice", x.join(3, 0, 0, 3), 5);
        due.is("00 belongs", x.answer(3, Due.w("00")), 1);
        due.is("0100 belongs", x.answer(3, Due.w("0100")), 1);
        due.is("0010 belongs", x.answer(3, Due.w("0010")), 1);
        due.is("0 does not", x.answer(3, Due.w("0")), 0);
        due.is("010 does not", x.answer(3, Due.w("010")), 0);
        due.is("the empty word does not", x.answer(3, 1), 0);
        due.is("SIGN 2 has NO ANSWER", x.answer(3, Due.w("2")), 8);
        due.lay(4, 2, 2, "01-", "0-2", "1--");
        due.done("how 4: 01 turned round", x.join(4, 4, -5, 5), 4);
        due.machine(5, 0, 2, "012", "011", "031", "111");
        due.done("how 5: pieces 01", x.join(5, 4, 16, 6), 3);
        due.machine(6, 0, 2, "112", "020", "022");
        joinEmpty(x);
    }

    private static void joinEmpty(WordSchool x) {
        x.machine(7, 2, 1, 1);
        x.cut(7, 0);
        due.done("nothing is YES, not even the empty word: how 5", x.join(5, 7, 0, 8), 2);
        due.machine(8, 0, 1, "11", "01");
        due.done("how 4", x.join(4, 7, 0, 8), 1);
        due.machine(8, 0, 1, "00");
        due.done("how 3", x.join(3, 7, 7, 8), 1);
        due.machine(8, 0, 1, "00");
        due.done("how 2", x.join(2, 7, 0, 8), 1);
        due.machine(8, 0, 1, "10");
        x.say(7, 0, 1);
        due.done("the empty word alone is YES: how 5", x.join(5, 7, 0, 8), 2);
        due.machine(8, 0, 1, "11", "01");
        due.done("how 3", x.join(3, 7, 7, 7), 2);
        due.machine(7, 0, 1, "11", "01");
    }

    /** Rings by one SIGN: one is YES by each a-th row, the other by each b-th. */
    private static void rings(WordSchool x, int a, int b) {
        x.machine(0, 0, a, 1);
        x.machine(1, 0, b, 1);
        for (int s = 0; s < a; s++) {
            x.take(0, s, 0, (s + 1) % a);
        }
        for (int s = 0; s < b; s++) {
            x.take(1, s, 0, (s + 1) % b);
        }
        x.say(0, 0, 1);
        x.say(1, 0, 1);
    }

    private static void joinFull() {
        WordSchool x = due.promise(22);
        rings(x, 2, 7);
        due.done("14 STATES", x.join(0, 0, 1, 2), 14);
        rings(x, 3, 5);
        due.refused("15 STATES", x.join(0, 0, 1, 2), Due.FULL);
        due.is("what lay there stays", x.size(2, 0), 14);
        rings(x, 13, 14);
        due.refused("182 STATES", x.join(1, 0, 1, 2), Due.FULL);
        // words whose SIGN number m is 1 are YES; turned round, m SIGNS have to be kept in mind
        for (int m = 1; m <= 12; m++) {
            x.machine(3, 0, m + 2, 2);
            for (int s = 0; s < m; s++) {
                x.take(3, s, 0, s + 1 == m ? m + 1 : s + 1);
                x.take(3, s, 1, s + 1);
            }
            for (int a = 0; a < 2; a++) {
                x.take(3, m, a, m);
                x.take(3, m + 1, a, m + 1);
            }
            x.say(3, m, 1);
            if (m <= 3) {
                due.done("turned round, m is " + m, x.join(4, 3, 0, 4), 1 << m);
            } else {
                due.refused("turned round, m is " + m, x.join(4, 3, 0, 4), Due.FULL);
            }
        }
    }

    /** At 0 all words are YES; at 1 the empty one and more: all words belong, by that many SETS. */
    private static void setsOfRowed(WordSchool x, int n, int seed) {
        x.machine(0, 0, 1, 2);
        x.say(0, 0, 1);
        x.machine(1, 0, n, 2);
        x.draw(1, seed);
        x.say(1, 0, 1);
    }

    /** All words of one SIGN are YES, so that all words belong; by SIGN 0 STATE 0 alone comes up again. */
    private static void setsOfAgain(WordSchool x, int n, int seed) {
        x.machine(0, 0, n, 2);
        x.draw(0, seed);
        x.take(0, 0, 0, 0);
        x.say(0, 0, 1);
        x.say(0, x.leads(0, 0, 1), 1);
    }

    private static void joinSets() {
        WordSchool x = due.promise(22);
        // the seeds were looked for: one for just 200 SETS, one for 201
        setsOfRowed(x, 12, 5117);
        due.done("how 3, 200 SETS", x.join(3, 0, 1, 2), 1);
        due.machine(2, 0, 2, "100");
        setsOfRowed(x, 12, 32885);
        due.refused("how 3, 201 SETS", x.join(3, 0, 1, 2), Due.FULL);
        setsOfAgain(x, 10, 4084);
        due.done("how 5, 200 SETS", x.join(5, 0, 0, 2), 1);
        due.machine(2, 0, 2, "100");
        setsOfAgain(x, 11, 2025);
        due.refused("how 5, 201 SETS, the first one of its own", x.join(5, 0, 0, 2), Due.FULL);
    }

    private static void joinRefused() {
        WordSchool x = two(22);
        due.refused("how is -1", x.join(-1, 99, 99, 99), Due.BEYOND);
        due.refused("how is 6", x.join(6, 9, 9, 9), Due.BEYOND);
        x.machine(5, 3, 14, 1);
        for (int s = 0; s < 14; s++) {
            x.take(5, s, 0, (s + 1) % 14);
        }
        x.act(5, 13, 0, 1);
        x.teacher(6, 0, 0, 0);
        for (int how = 0; how < 6; how++) {
            boolean both = how == 0 || how == 1 || how == 3;
            due.refused("a is no PLACE", x.join(how, 16, 9, 99), Due.BEYOND);
            due.refused("nothing at a", x.join(how, 9, 16, 99), Due.MISSING);
            due.refused("a TEACHER at a", x.join(how, 6, 16, 99), Due.KIND);
            due.refused("nothing at b, or to", x.join(how, 0, 9, 99), both ? Due.MISSING : Due.BEYOND);
            due.refused("a TEACHER at b, or to", x.join(how, 0, 6, -1), both ? Due.KIND : Due.BEYOND);
            due.refused("to is no PLACE, ahead of GREAT", x.join(how, 5, 5, 16), Due.BEYOND);
        }
        due.lay(7, 1, 1, "20");
        x.machine(8, 3, 8, 1);
        for (int s = 0; s < 8; s++) {
            x.take(8, s, 0, (s + 1) % 8);
            x.say(8, s, 2);
        }
        x.act(8, 7, 0, 1);
        for (int how = 0; how < 6; how++) {
            boolean both = how == 0 || how == 1 || how == 3;
            due.refused("GREAT comes ahead of KIND", x.join(how, 8, 7, 2), Due.FULL);
            due.refused("an ANSWER above 1", x.join(how, 7, 0, 2), Due.KIND);
            if (both) {
                due.refused("GREAT at b comes ahead of KIND", x.join(how, 7, 8, 2), Due.FULL);
                due.refused("an ANSWER above 1 at b", x.join(how, 0, 7, 2), Due.KIND);
            } else {
                due.is("b is not looked at", x.join(how, 0, 8, 2) > 0 ? 1 : 0, 1);
            }
        }
        due.lay(9, 1, 1, "00", "70");
        due.done("an ANSWER above 1 that no word gets", x.join(2, 9, 9, 9), 1);
        due.machine(9, 0, 1, "10");
    }

    private static void suite() {
        WordSchool x = due.promise(23);
        x.machine(0, 0, 1, 1);
        // firsts: empty, 0; lasts: empty
        due.is("one STATE, h 0", x.suite(0, 0), 2);
        due.is("one STATE, h 1", x.suite(0, 1), 3);
        due.is("one STATE, h 2", x.suite(0, 2), 4);
        x.machine(0, 0, 1, 3);
        due.is("k 3, h 0", x.suite(0, 0), 4);
        due.is("k 3, h 2", x.suite(0, 2), 40);
        due.lay(1, 0, 1, "11", "00");
        // firsts: empty, 0, 00; lasts: empty (it tells 0 and 1 apart)
        due.is("two STATES", x.suite(1, 0), 3);
        due.lay(1, 1, 1, "11", "12", "02");
        // firsts: empty, 0, 00, 000; lasts: empty, 0
        due.is("three STATES", x.suite(1, 0), 5);
        due.is("three STATES, h 2", x.suite(1, 2), 7);
        due.lay(2, 2, 2, "1-1", "1-2", "1--");
        // firsts: all of empty, 0, 1, 10, 11, 110, 111; lasts: empty, 1, 11 (not 0: it is MISSING by all)
        due.is("PARTIAL", x.suite(2, 0), 15);
        suiteNone(x);
    }

    private static void suiteNone(WordSchool x) {
        due.is("h is -1", x.suite(0, -1), -1);
        due.is("h is 3", x.suite(0, 3), -1);
        x.machine(3, 2, 7, 1);
        for (int s = 0; s < 6; s++) {
            x.take(3, s, 0, s + 1);
        }
        x.take(3, 6, 0, -1);
        due.is("7 STATES", x.suite(3, 0), -1);
        x.take(3, 5, 0, -1);
        due.is("6 STATES", x.suite(3, 0) > 0 ? 1 : 0, 1);
        x.machine(4, 1, 1, 4);
        due.is("k is 4", x.suite(4, 0), -1);
        due.lay(4, 2, 4, "0000-");
        due.is("k of the LEAST is 3", x.suite(4, 0), 4);
        x.machine(5, 3, 4, 1);
        for (int s = 0; s < 4; s++) {
            x.take(5, s, 0, (s + 1) % 4);
        }
        x.act(5, 0, 0, 1);
        due.is("13 pairs, and as many STATES", x.suite(5, 0), -1);
        x.machine(5, 3, 14, 1);
        for (int s = 0; s < 14; s++) {
            x.take(5, s, 0, (s + 1) % 14);
        }
        due.is("14 pairs, 1 STATE", x.suite(5, 0), 2);
        x.act(5, 13, 0, 1);
        due.is("GREAT", x.suite(5, 0), -1);
        x.teacher(6, 0, 0, 0);
        int[] others = {6, 7, -1, 16};
        for (int p : others) {
            due.is("suite(" + p + ", 0)", x.suite(p, 0), -1);
        }
    }

    private static void passes() {
        WordSchool x = due.promise(24);
        due.lay(0, 0, 1, "11", "00");
        due.lay(1, 0, 1, "11", "02", "13", "04", "15", "05");
        due.is("itself", x.passes(0, 0, 0), 0);
        due.is("unlike behind 6 SIGNS, h 0: up to 2", x.passes(0, 1, 0), 0);
        due.is("h 2: up to 4", x.passes(0, 1, 2), 0);
        due.lay(1, 0, 1, "11", "02", "13", "04", "04");
        due.is("unlike behind 4 SIGNS, h 1", x.passes(0, 1, 1), 0);
        due.is("h 2", x.passes(0, 1, 2), Due.w("0000"));
        due.lay(2, 1, 1, "71", "70");
        due.is("the empty word", x.passes(0, 2, 0), 1);
        due.lay(2, 2, 1, "11", "0-");
        due.is("NO ANSWER by the other", x.passes(0, 2, 0), Due.w("00"));
        due.is("NO ANSWER by this one", x.passes(2, 0, 0), Due.w("00"));
        due.lay(3, 0, 2, "100");
        due.is("the first of more", x.passes(0, 3, 0), Due.w("0"));
        x.machine(4, 3, 14, 1);
        for (int s = 0; s < 14; s++) {
            x.take(4, s, 0, (s + 1) % 14);
            x.say(4, s, 1 - s % 2);
        }
        x.act(4, 13, 0, 1);
        due.is("a GREAT machine at q", x.passes(0, 4, 2), 0);
        due.is("a GREAT machine at p", x.passes(4, 0, 2), -1);
        due.is("h is 3", x.passes(0, 1, 3), -1);
        due.is("h is -1", x.passes(0, 1, -1), -1);
        x.teacher(6, 0, 0, 0);
        int[] others = {6, 7, -1, 16};
        for (int p : others) {
            due.is("passes(" + p + ", 0, 0)", x.passes(p, 0, 0), -1);
            due.is("passes(0, " + p + ", 0)", x.passes(0, p, 0), -1);
        }
    }

    public static void main(String[] args) {
        least();
        joinTwo();
        joinSmall();
        joinOne();
        joinFull();
        joinSets();
        joinRefused();
        suite();
        passes();
        due.end();
    }
}
