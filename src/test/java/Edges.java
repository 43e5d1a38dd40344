import java.lang.reflect.InvocationTargetException;
import java.lang.reflect.Method;
import java.util.ArrayList;
import java.util.Arrays;
import java.util.Comparator;
import java.util.LinkedHashMap;
import java.util.List;
import java.util.Map;

/**
 * What the tests of boundary cases share. A test is a method with @Says; it is named by the number of
 * its promise (p05_take_..) or by a term of the document (t_run_..). Each call that it looks at is
 * made on new objects, which begin by the calls given to begin().
 */
abstract class Edges {
    static final int MISSING = 1;
    static final int BEYOND = 2;
    static final int NEGATIVE = 3;
    static final int KIND = 4;
    static final int FULL = 5;
    static final int ALIKE = 6;
    private static final List<String> FINDINGS = List.of("", "MISSING", "BEYOND", "NEGATIVE", "KIND", "FULL", "ALIKE");

    /** No PLACE: just outside at both ends, and as far as can be. */
    static final String[] NO_PLACES = {"-1", "16", "MIN", "MAX"};
    /** No WORD: around each of the lengths that words have, and as far as can be. */
    static final String[] NO_WORDS = {
        "0", "-1", "2", "3", "8", "15", "32", "63", "-4", "2305843009213693952", "4611686018427387903",
        "4611686018427387904", "1152921504606846975", "LMAX", "LMIN"};

    /** A machine or TEACHER of each KIND, a pupil, KNOWN words, FAILURES: what a refused ACT may not change. */
    static final String HOUSE = String.join("; ",
        lay(0, 0, 2, "010", "101"),
        lay(1, 1, 2, "712", "320", "501"),
        lay(2, 2, 3, "41-2", "520.", "6"), "row(2, 1, 2); take(2, 1, 0, 2); cut(2, 2)",
        lay(3, 3, 2, "301", "2"), "act(3, 0, 0, 1); act(3, 0, 1, 2); row(3, 1, 1); act(3, 1, 0, 3)",
        "machine(15, 0, 1, 1)",
        "teacher(4, 0, 1, 0)",
        lay(14, 0, 2, "010", "021", "032", "103"), "teacher(5, 1, 14, 3); learn(5); exam(); lift(14)",
        "teacher(6, 2, 2, 5); forget(6, '0'); forget(6, '22')",
        "know(4, ''); know(4, '0'); know(5, '000')",
        "blame(0, 7); blame(7, -1); blame(15, 0)");

    private List<School.Call> start = List.of();
    private String test = "";
    private int asked;
    private int wrong;

    // ---- how objects begin

    void begin(String... calls) {
        start = School.parseAll(String.join("; ", calls));
    }

    School started() {
        School x = new School();
        for (School.Call c : start) {
            long got = x.call(c);
            if (c.want != null) {
                is(c.text, got, c.want);
            } else if (got == WordSchool.NONE && x.call("status()") != 0) {
                throw new IllegalStateException("the test begins by a call that is refused: " + c.text);
            }
        }
        return x;
    }

    /** The calls that lay a machine, a text a STATE: its ANSWER, then its TAKES by SIGN ('-' MISSING). */
    static String lay(int p, int kind, int k, String... states) {
        StringBuilder calls = new StringBuilder("machine(" + p + ", " + kind + ", " + states.length + ", " + k + ")");
        for (int s = 0; s < states.length; s++) {
            if (digit(states[s], 0) != 0) {
                calls.append("; say(" + p + ", " + s + ", " + digit(states[s], 0) + ")");
            }
            for (int a = 0; a + 1 < states[s].length() && states[s].charAt(a + 1) != '.'; a++) {
                if (digit(states[s], a + 1) != 0) {
                    calls.append("; take(" + p + ", " + s + ", " + a + ", " + digit(states[s], a + 1) + ")");
                }
            }
        }
        return calls.toString();
    }

    /** A machine of n STATES that lead on by SIGN 0, the last one back to STATE 0. */
    static String ring(int p, int kind, int n) {
        StringBuilder calls = new StringBuilder("machine(" + p + ", " + kind + ", " + n + ", 1)");
        for (int s = 0; s + 1 < n; s++) {
            calls.append("; take(" + p + ", " + s + ", 0, " + (s + 1) + ")");
        }
        return calls.toString();
    }

    /**
     * A COUNTED machine whose rows of SIGNS end at so many pairs (4 to 17): a chain by SIGN 0, at
     * whose end the COUNT goes up to 3. Its LEAST machine has as many STATES.
     */
    static String pairs(int p, int many) {
        int last = many - 4;
        return ring(p, 3, many - 3) + "; take(" + p + ", " + last + ", 0, " + last + "); act(" + p + ", " + last + ", 0, 1)";
    }

    /** A COUNTED machine of 15 pairs, by which there are two classes of rows of SIGNS alone. */
    static String wide(int p) {
        String loop = "; take(" + p + ", 7, 0, 1); take(" + p + ", 0, 1, 1); act(" + p + ", 0, 1, 1)";
        return lay(p, 3, 2, "01.", "02-", "03-", "04-", "05-", "06-", "07-", "0.") + loop + "; row(" + p + ", 7, 1); take(" + p + ", 7, 0, 1)";
    }

    /** What is due of the whole of a machine, as in lay; '.' is a TAKE that is not there. */
    static String shows(int p, int kind, int k, String... states) {
        StringBuilder due = new StringBuilder("kind(" + p + ") = " + kind + "; size(" + p + ", 0) = " + states.length + "; size(" + p + ", 1) = " + k);
        for (int s = 0; s < states.length; s++) {
            due.append("; says(" + p + ", " + s + ") = " + digit(states[s], 0));
            for (int a = 0; a <= k; a++) {
                boolean there = a + 1 < states[s].length() && states[s].charAt(a + 1) != '.';
                due.append("; leads(" + p + ", " + s + ", " + a + ") = " + (there ? digit(states[s], a + 1) : -2));
            }
        }
        return due.append("; says(" + p + ", " + states.length + ") = -1").toString();
    }

    private static int digit(String text, int i) {
        return text.charAt(i) == '-' ? -1 : Character.digit(text.charAt(i), 36);
    }

    /** A text with a number, or several, in place of each '%'. */
    static String with(String call, Object... values) {
        String filled = call;
        for (Object value : values) {
            filled = filled.replaceFirst("%", value.toString());
        }
        return filled;
    }

    // ---- what is due

    /** An ACT that is done: its answer, status() 0, and what is due behind it. */
    void done(String act, long want, String... behind) {
        School x = started();
        x.call("lift(-1)");
        is(act, x.call(act), want);
        is("status() behind " + act, x.call("status()"), 0);
        for (School.Call c : School.parseAll(String.join("; ", behind))) {
            long got = x.call(c);
            if (c.want != null) {
                is(c.text + " behind " + act, got, c.want);
            }
        }
    }

    /** An ACT that is done and changes just what is named, of all that can be asked. */
    void changes(String act, long want, String... changed) {
        done(act, want, changed);
        Map<String, String> due = new LinkedHashMap<>();
        for (School.Call c : School.parseAll(String.join("; ", changed))) {
            due.put(c.text.substring(0, c.text.indexOf('=')).trim(), "" + c.want);
        }
        for (int part = 0; part < Look.PARTS; part++) {
            School x = started();
            x.call(act);
            Map<String, String> before = Look.at(started(), part);
            Map<String, String> now = Look.at(x, part);
            now.keySet().removeAll(due.keySet());
            before.keySet().removeAll(due.keySet());
            same(act, before, now);
        }
    }

    /** An ACT that is refused: it answers NONE, status() is the finding, and nothing else has changed. */
    void refused(String act, int finding) {
        for (int part = 0; part < Look.PARTS; part++) {
            School x = started();
            is(act, x.call(act), WordSchool.NONE);
            is("status() behind " + act, x.call("status()"), finding);
            same(act, Look.at(started(), part), Look.at(x, part));
        }
    }

    /** An ASK: its answer, and neither status() nor anything else has changed. */
    void asks(String ask, long want) {
        for (int part = 0; part < Look.PARTS; part++) {
            School x = started();
            x.call("lift(-1)");
            is(ask, x.call(ask), want);
            is(ask + ", asked again", x.call(ask), want);
            is("status() behind " + ask, x.call("status()"), BEYOND);
            same(ask, Look.at(started(), part), Look.at(x, part));
        }
    }

    /** ASKS that are due one behind the other; the answers alone are looked at. */
    void answers(String... due) {
        School x = started();
        for (School.Call c : School.parseAll(String.join("; ", due))) {
            is(c.text, x.call(c), c.want);
        }
    }

    /** PLACE p: a call with '%' for p is refused as BEYOND where p is no PLACE. */
    void placeRefused(String act) {
        for (String p : NO_PLACES) {
            refused(with(act, p), BEYOND);
        }
    }

    /** MACHINE p, in the HOUSE: PLACE p, then MISSING, then KIND. */
    void machineRefused(String act) {
        placeRefused(act);
        refused(with(act, 7), MISSING);
        for (int p = 4; p <= 6; p++) {
            refused(with(act, p), KIND);
        }
    }

    /**
     * Of two refusals that apply at once the one that is looked for first is told. A fault is a text
     * "KIND 0=4 3=-1": its finding, then the arguments (by their numbers) that bring it about; faults
     * stand in the order of the document.
     */
    void order(String act, String... faults) {
        for (int i = 0; i < faults.length; i++) {
            int finding = FINDINGS.indexOf(faults[i].substring(0, faults[i].indexOf(' ')));
            for (int j = i; j < faults.length; j++) {
                String call = withFault(withFault(act, faults[j]), faults[i]);
                if (withFault(call, faults[j]).equals(call)) {
                    refused(call, finding);
                }
            }
        }
    }

    private static String withFault(String act, String fault) {
        int open = act.indexOf('(');
        String[] args = act.substring(open + 1, act.length() - 1).split(", ");
        String[] parts = fault.split(" ");
        for (int i = 1; i < parts.length; i++) {
            String[] put = parts[i].split("=");
            args[Integer.parseInt(put[0])] = put[1];
        }
        return act.substring(0, open + 1) + String.join(", ", args) + ")";
    }

    private void same(String call, Map<String, String> before, Map<String, String> now) {
        asked++;
        if (!before.equals(now)) {
            List<String> unlike = new ArrayList<>();
            for (String key : now.keySet()) {
                if (!now.get(key).equals(before.get(key))) {
                    unlike.add(key + ": " + before.get(key) + ", then " + now.get(key));
                }
            }
            for (String key : before.keySet()) {
                if (!now.containsKey(key)) {
                    unlike.add(key + ": " + before.get(key) + ", then nothing");
                }
            }
            tell(call + " has changed " + unlike);
        }
    }

    void is(String call, long got, long want) {
        asked++;
        if (got != want) {
            tell(call + " answered " + got + ", due is " + want);
        }
    }

    private void tell(String fault) {
        wrong++;
        System.out.println(getClass().getSimpleName() + ", " + test + ": " + fault);
    }

    // ---- running the tests

    static List<Method> testsOf(Class<? extends Edges> tests) {
        List<Method> found = new ArrayList<>();
        for (Method m : tests.getDeclaredMethods()) {
            if (m.isAnnotationPresent(Says.class)) {
                found.add(m);
            }
        }
        found.sort(Comparator.comparing(Method::getName));
        return found;
    }

    /** Runs each test of the class; those named, if some are. */
    void runAll(String... named) {
        int tests = 0;
        for (Method m : testsOf(getClass())) {
            if (named.length > 0 && !Arrays.asList(named).contains(m.getName())) {
                continue;
            }
            test = m.getName();
            start = List.of();
            tests++;
            int before = asked;
            try {
                m.invoke(this);
            } catch (InvocationTargetException e) {
                tell("it ended by " + e.getCause());
            } catch (IllegalAccessException e) {
                tell("it could not be run: " + e);
            }
            if (asked == before) {
                tell("it asked nothing");
            }
        }
        String all = getClass().getSimpleName() + ": " + tests + " tests, " + asked + " answers";
        System.out.println(all + (wrong == 0 ? ", all as due" : ", " + wrong + " not as due"));
        if (wrong != 0 || tests == 0) {
            System.exit(1);
        }
    }
}
