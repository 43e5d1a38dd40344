import java.util.LinkedHashMap;
import java.util.Map;

/**
 * All that can be asked of an object, in parts: an object may be called 512 times alone, and what can
 * be seen only by ACTS (FAILURES, KNOWN words, the GUESS, what the pupil's teacher would tell) is
 * looked at on an object of its own. status() is left out.
 */
final class Look {
    static final int PARTS = 3;
    private static final int MOST_CELLS = 4;
    private static final String[] PROBES = {"''", "'0'", "'1'", "'00'", "'01'", "'10'", "'000'"};

    private final School x;
    private final Map<String, String> seen = new LinkedHashMap<>();

    private Look(School x) {
        this.x = x;
    }

    static Map<String, String> at(School x, int part) {
        Look look = new Look(x);
        switch (part) {
            case 0:
                look.desk();
                break;
            case 1:
                look.pupil();
                break;
            default:
                look.keptThings();
        }
        return look.seen;
    }

    private long see(String call) {
        long got = x.call(call);
        seen.put(call, "" + got);
        return got;
    }

    /** An ACT, with its finding: NONE may be an answer too. */
    private long seeAct(String call, String name) {
        long got = x.call(call);
        seen.put(name, got + " with " + x.call("status()"));
        return got;
    }

    private void desk() {
        for (int p = 0; p < 16; p++) {
            long kind = see("kind(" + p + ")");
            if (kind >= 0 && kind <= 3) {
                machine(p, kind == 3);
                see("fits(" + p + ")");
            }
            if (kind >= 4) {
                see("size(" + p + ", 0)");
                see("size(" + p + ", 1)");
                for (int w = 1; w < 32; w += w == 1 ? 3 : w == 7 ? 9 : 1) {
                    see("answer(" + p + ", " + w + ")");
                }
            }
        }
    }

    private void machine(int p, boolean counted) {
        long n = see("size(" + p + ", 0)");
        long k = see("size(" + p + ", 1)");
        for (int s = 0; s < n; s++) {
            see("says(" + p + ", " + s + ")");
            for (int a = 0; a < k; a++) {
                see("leads(" + p + ", " + s + ", " + a + ")");
                if (counted) {
                    see("what(" + p + ", " + s + ", " + a + ")");
                }
            }
        }
    }

    private void pupil() {
        see("told()");
        see("guesses()");
        int ahead = 0;
        while (see("ahead(" + ahead + ")") != WordSchool.NONE) {
            ahead++;
        }
        int behind = 0;
        while (see("behind(" + behind + ")") != WordSchool.NONE) {
            behind++;
        }
        for (int i = 0; i < Math.min(ahead, MOST_CELLS); i++) {
            for (int j = 0; j < Math.min(behind, MOST_CELLS); j++) {
                for (int a = -1; a < 4; a++) {
                    see("cell(" + i + ", " + a + ", " + j + ")");
                }
            }
        }
        if (seeAct("guess(0)", "the GUESS") != WordSchool.NONE) {
            guess();
        }
        for (int c = 0; c < 15 && seeAct("exam()", "exam number " + c) > 0; c++) {
            seen.put("told by exam number " + c, "" + x.call("told()"));
        }
    }

    /** The GUESS, under names of its own: it is no part of the desk. */
    private void guess() {
        Look made = new Look(x);
        made.machine(0, false);
        seen.put("the machine of the GUESS", x.call("kind(0)") + " " + made.seen);
    }

    private void keptThings() {
        for (int p = 0; p < 16; p++) {
            seeAct("raise(" + p + ")", "the FAILURE at " + p);
        }
        int teacher = 0;
        while (teacher < 15 && x.call("kind(" + teacher + ")") < 4) {
            teacher++;
        }
        int to = teacher == 0 ? 1 : 0;
        if (seeAct("fewest(" + to + ")", "the fewest STATES") != WordSchool.NONE) {
            Look made = new Look(x);
            made.machine(to, false);
            seen.put("the machine of the KNOWN words", x.call("kind(" + to + ")") + " " + made.seen);
        }
        for (String word : PROBES) {
            seeAct("know(" + teacher + ", " + word + ")", "know " + word);
        }
        seeAct("unknow()", "how many are KNOWN");
    }
}
