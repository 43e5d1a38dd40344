import java.util.ArrayDeque;
import java.util.ArrayList;
import java.util.Arrays;
import java.util.HashMap;
import java.util.HashSet;
import java.util.List;
import java.util.Map;
import java.util.Set;
import java.util.TreeSet;

/**
 * The document read sentence by sentence, without regard to speed or room: what WordSchool is
 * compared with. Words are texts of the characters 0 to 3 here.
 */
final class NaiveSchool {
    static final int NONE = -1;

    /** A machine; a ROW that is not there is null, a MISSING TAKE is -1. */
    static final class Mach {
        int kind;
        int n;
        int k;
        int[][] takes;
        int[][] acts;
        int[] ans;

        Mach(int kind, int n, int k) {
            this.kind = kind;
            this.n = n;
            this.k = k;
            takes = new int[n][k];
            acts = new int[n][k];
            ans = new int[n];
        }

        Mach twin() {
            Mach m = new Mach(kind, n, k);
            for (int s = 0; s < n; s++) {
                m.takes[s] = takes[s] == null ? null : takes[s].clone();
                m.acts[s] = acts[s] == null ? null : acts[s].clone();
            }
            m.ans = ans.clone();
            return m;
        }

        /** State and count at which a row of signs ends, null if it has no answer. */
        int[] end(String w) {
            int s = 0;
            int c = 0;
            for (char ch : w.toCharArray()) {
                int a = ch - '0';
                if (takes[s] == null || a >= takes[s].length || takes[s][a] < 0) {
                    return null;
                }
                if (kind == 3) {
                    int h = acts[s][a];
                    if (h == 1 && c == 3 || h == 2 && c == 0 || h == 3 && c != 0) {
                        return null;
                    }
                    c += h == 1 ? 1 : h == 2 ? -1 : 0;
                }
                s = takes[s][a];
            }
            return new int[] {s, c};
        }

        int answer(String w) {
            int[] e = end(w);
            return e == null ? 8 : ans[e[0]];
        }

        String endName(String w) {
            return Arrays.toString(end(w));
        }
    }

    static final class Teach {
        int kind;
        Mach secret;
        int limit;
        List<Long> forgotten = new ArrayList<>();
    }

    // ---- words

    static String text(long word) {
        StringBuilder b = new StringBuilder();
        for (long w = word; w > 1; w /= 4) {
            b.append((char) ('0' + w % 4));
        }
        return b.reverse().toString();
    }

    static boolean isWord(long word) {
        if (word < 1) {
            return false;
        }
        long w = word;
        int m = 0;
        while (w > 3) {
            w /= 4;
            m++;
        }
        return w == 1 && m <= 30;
    }

    static long number(String w) {
        long x = 1;
        for (char ch : w.toCharArray()) {
            x = 4 * x + (ch - '0');
        }
        return x;
    }

    // ---- alike, great, least

    /** The first row of signs that, behind u by a and behind v by b, is answered unlike; null: none. */
    static String firstUnlike(Mach a, String u, Mach b, String v) {
        ArrayDeque<String> todo = new ArrayDeque<>();
        Set<String> seen = new HashSet<>();
        todo.add("");
        seen.add(a.endName(u) + b.endName(v));
        while (!todo.isEmpty()) {
            String w = todo.remove();
            if (a.answer(u + w) != b.answer(v + w)) {
                return w;
            }
            for (int sign = 0; sign < 4; sign++) {
                String x = w + sign;
                if (seen.add(a.endName(u + x) + b.endName(v + x))) {
                    todo.add(x);
                }
            }
        }
        return null;
    }

    /** First words of the pairs of a state and a count that come up, in order; at most 15 of them. */
    static List<String> firstWords(Mach m) {
        List<String> found = new ArrayList<>();
        Set<String> seen = new HashSet<>();
        found.add("");
        seen.add(m.endName(""));
        for (int i = 0; i < found.size() && found.size() < 15; i++) {
            for (int a = 0; a < 4; a++) {
                String x = found.get(i) + a;
                if (m.end(x) != null && seen.add(m.endName(x))) {
                    found.add(x);
                }
            }
        }
        return found;
    }

    static boolean great(Mach m) {
        return m.kind == 3 && firstWords(m).size() > 14;
    }

    static List<String> accessWords(Mach m) {
        List<String> access = new ArrayList<>();
        for (String w : firstWords(m)) {
            if (classOf(m, access, w) < 0) {
                access.add(w);
            }
        }
        return access;
    }

    static int classOf(Mach m, List<String> access, String w) {
        for (int i = 0; i < access.size(); i++) {
            if (firstUnlike(m, access.get(i), m, w) == null) {
                return i;
            }
        }
        return -1;
    }

    static Mach leastOf(Mach m) {
        List<String> access = accessWords(m);
        int k = 1;
        for (String w : access) {
            for (int a = 0; a < 4; a++) {
                if (m.end(w + a) != null) {
                    k = Math.max(k, a + 1);
                }
            }
        }
        Mach l = new Mach(2, access.size(), k);
        for (int s = 0; s < l.n; s++) {
            l.ans[s] = m.answer(access.get(s));
            for (int a = 0; a < k; a++) {
                String x = access.get(s) + a;
                l.takes[s][a] = m.end(x) == null ? -1 : classOf(m, access, x);
            }
        }
        l.kind = kindOf(l);
        return l;
    }

    static int kindOf(Mach m) {
        for (int[] r : m.takes) {
            for (int t : r) {
                if (t < 0) {
                    return 2;
                }
            }
        }
        for (int v : m.ans) {
            if (v > 1) {
                return 1;
            }
        }
        return 0;
    }

    // ---- the desk

    final Object[] desk = new Object[16];
    final Integer[] failures = new Integer[16];
    int finding = 0;
    Teach pupilTeacher;
    List<String> ahead = new ArrayList<>();
    List<String> behind = new ArrayList<>();
    Mach guess;
    int guesses;
    long told;
    List<Long> knownWords = new ArrayList<>();
    List<Integer> knownAnswers = new ArrayList<>();

    int refuse(int f) {
        finding = f;
        return NONE;
    }

    int done(int x) {
        finding = 0;
        return x;
    }

    boolean place(int p) {
        return p >= 0 && p <= 15;
    }

    int machineFault(int p) {
        return !place(p) ? 2 : desk[p] == null ? 1 : desk[p] instanceof Mach ? 0 : 4;
    }

    int thingFault(int p) {
        return !place(p) ? 2 : desk[p] == null ? 1 : 0;
    }

    Mach at(int p) {
        return machineFault(p) == 0 ? (Mach) desk[p] : null;
    }

    int machine(int p, int kind, int n, int k) {
        if (!place(p)) {
            return refuse(2);
        }
        if (kind < 0 || kind > 3) {
            return refuse(4);
        }
        if (n < 0 || k < 0) {
            return refuse(3);
        }
        if (n == 0 || n > 14 || k == 0 || k > 4) {
            return refuse(2);
        }
        desk[p] = new Mach(kind, n, k);
        return done(n);
    }

    int row(int p, int s, int n) {
        if (machineFault(p) != 0) {
            return refuse(machineFault(p));
        }
        Mach m = at(p);
        if (m.kind < 2) {
            return refuse(4);
        }
        if (s < 0 || s >= m.n) {
            return refuse(2);
        }
        if (n < 0) {
            return refuse(3);
        }
        if (n > m.k) {
            return refuse(2);
        }
        m.takes[s] = new int[n];
        Arrays.fill(m.takes[s], -1);
        m.acts[s] = new int[n];
        return done(n);
    }

    int cut(int p, int s) {
        if (machineFault(p) != 0) {
            return refuse(machineFault(p));
        }
        Mach m = at(p);
        if (m.kind < 2) {
            return refuse(4);
        }
        if (s < 0 || s >= m.n) {
            return refuse(2);
        }
        m.takes[s] = null;
        m.acts[s] = null;
        return done(0);
    }

    int take(int p, int s, int a, int t) {
        if (machineFault(p) != 0) {
            return refuse(machineFault(p));
        }
        Mach m = at(p);
        if (s < 0 || s >= m.n) {
            return refuse(2);
        }
        if (m.takes[s] == null) {
            return refuse(1);
        }
        if (a < 0 || a >= m.takes[s].length) {
            return refuse(2);
        }
        if (t < -1 || t >= m.n) {
            return refuse(2);
        }
        if (t == -1 && m.kind < 2) {
            return refuse(4);
        }
        m.takes[s][a] = t;
        return done(0);
    }

    int say(int p, int s, int v) {
        if (machineFault(p) != 0) {
            return refuse(machineFault(p));
        }
        Mach m = at(p);
        if (s < 0 || s >= m.n) {
            return refuse(2);
        }
        if (v < 0 || v > (m.kind == 0 ? 1 : 7)) {
            return refuse(2);
        }
        m.ans[s] = v;
        return done(0);
    }

    int act(int p, int s, int a, int h) {
        if (machineFault(p) != 0) {
            return refuse(machineFault(p));
        }
        Mach m = at(p);
        if (m.kind != 3) {
            return refuse(4);
        }
        if (s < 0 || s >= m.n) {
            return refuse(2);
        }
        if (m.takes[s] == null) {
            return refuse(1);
        }
        if (a < 0 || a >= m.takes[s].length) {
            return refuse(2);
        }
        if (h < 0 || h > 3) {
            return refuse(2);
        }
        m.acts[s][a] = h;
        return done(0);
    }

    int copy(int p, int s, int i, int t, int n) {
        if (machineFault(p) != 0) {
            return refuse(machineFault(p));
        }
        Mach m = at(p);
        if (s < 0 || s >= m.n || t < 0 || t >= m.n) {
            return refuse(2);
        }
        if (m.takes[s] == null || m.takes[t] == null) {
            return refuse(1);
        }
        if (i < 0 || n < 0 || (long) i + n > m.takes[s].length || n > m.takes[t].length) {
            return refuse(2);
        }
        int[] takes = Arrays.copyOfRange(m.takes[s], i, i + n);
        int[] acts = Arrays.copyOfRange(m.acts[s], i, i + n);
        for (int j = 0; j < n; j++) {
            m.takes[t][j] = takes[j];
            m.acts[t][j] = acts[j];
        }
        return done(0);
    }

    private int drawn;

    private int next(int m) {
        drawn = drawn * 1103515245 + 12345;
        return ((drawn >> 16) & 0xFFFF) % m;
    }

    int draw(int p, int seed) {
        if (machineFault(p) != 0) {
            return refuse(machineFault(p));
        }
        Mach m = at(p);
        drawn = seed;
        for (int s = 0; s < m.n; s++) {
            for (int a = 0; m.takes[s] != null && a < m.takes[s].length; a++) {
                m.takes[s][a] = next(m.n);
                if (m.kind == 3) {
                    m.acts[s][a] = next(4);
                }
            }
            m.ans[s] = next(m.kind == 0 ? 2 : 8);
        }
        return done(0);
    }

    int lift(int p) {
        if (thingFault(p) != 0) {
            return refuse(thingFault(p));
        }
        desk[p] = null;
        return done(0);
    }

    // ---- asks

    int kind(int p) {
        if (thingFault(p) != 0) {
            return NONE;
        }
        return at(p) != null ? at(p).kind : 4 + ((Teach) desk[p]).kind;
    }

    int size(int p, int what) {
        if (thingFault(p) != 0 || what != 0 && what != 1) {
            return NONE;
        }
        if (at(p) != null) {
            return what == 0 ? at(p).n : at(p).k;
        }
        Teach t = (Teach) desk[p];
        return what == 0 ? t.limit : t.forgotten.size();
    }

    int leads(int p, int s, int a) {
        Mach m = at(p);
        if (m == null || s < 0 || s >= m.n) {
            return -3;
        }
        if (m.takes[s] == null || a < 0 || a >= m.takes[s].length) {
            return -2;
        }
        return m.takes[s][a];
    }

    int what(int p, int s, int a) {
        Mach m = at(p);
        if (m == null || m.kind != 3 || leads(p, s, a) < -1) {
            return NONE;
        }
        return m.acts[s][a];
    }

    int says(int p, int s) {
        Mach m = at(p);
        return m == null || s < 0 || s >= m.n ? NONE : m.ans[s];
    }

    int heard(Teach t, long word) {
        return t.forgotten.contains(word) ? 9 : t.secret.answer(text(word));
    }

    int answer(int p, long word) {
        if (thingFault(p) != 0 || !isWord(word)) {
            return NONE;
        }
        return at(p) != null ? at(p).answer(text(word)) : heard((Teach) desk[p], word);
    }

    /** How many rows of n signs behind u have the answer v: forward, by where they end. */
    static long waysBehind(Mach m, String u, int v, int n) {
        Map<String, Long> many = new HashMap<>();
        Map<String, String> witness = new HashMap<>();
        if (m.end(u) != null) {
            many.put(m.endName(u), 1L);
            witness.put(m.endName(u), u);
        }
        for (int i = 0; i < n; i++) {
            Map<String, Long> next = new HashMap<>();
            for (Map.Entry<String, Long> e : many.entrySet()) {
                for (int a = 0; a < 4; a++) {
                    String x = witness.get(e.getKey()) + a;
                    if (m.end(x) != null) {
                        next.merge(m.endName(x), e.getValue(), Long::sum);
                        witness.putIfAbsent(m.endName(x), x);
                    }
                }
            }
            many = next;
        }
        long sum = 0;
        for (Map.Entry<String, Long> e : many.entrySet()) {
            if (m.answer(witness.get(e.getKey())) == v) {
                sum += e.getValue();
            }
        }
        return sum;
    }

    long count(int p, int v, int n) {
        if (at(p) == null || v < 0 || v > 7 || n < 0 || n > 30) {
            return NONE;
        }
        return waysBehind(at(p), "", v, n);
    }

    long word(int p, int v, long i) {
        if (at(p) == null || v < 0 || v > 7 || i < 0) {
            return NONE;
        }
        long left = i;
        for (int m = 0; m <= 30; m++) {
            long here = waysBehind(at(p), "", v, m);
            if (left >= here) {
                left -= here;
                continue;
            }
            String w = "";
            while (w.length() < m) {
                int a = 0;
                long ways = waysBehind(at(p), w + a, v, m - w.length() - 1);
                while (left >= ways) {
                    left -= ways;
                    a++;
                    ways = waysBehind(at(p), w + a, v, m - w.length() - 1);
                }
                w = w + a;
            }
            return number(w);
        }
        return NONE;
    }

    long placeOf(int p, long word) {
        if (at(p) == null || !isWord(word) || at(p).answer(text(word)) == 8) {
            return NONE;
        }
        String w = text(word);
        int v = at(p).answer(w);
        long sum = 0;
        for (int m = 0; m < w.length(); m++) {
            sum += waysBehind(at(p), "", v, m);
        }
        for (int i = 0; i < w.length(); i++) {
            for (char a = '0'; a < w.charAt(i); a++) {
                sum += waysBehind(at(p), w.substring(0, i) + a, v, w.length() - i - 1);
            }
        }
        return sum;
    }

    long differ(int a, int b) {
        if (at(a) == null || at(b) == null || great(at(a)) || great(at(b))) {
            return NONE;
        }
        String w = firstUnlike(at(a), "", at(b), "");
        return w == null ? 0 : number(w);
    }

    // ---- machines made of others

    int least(int a, int to) {
        if (machineFault(a) != 0) {
            return refuse(machineFault(a));
        }
        if (!place(to)) {
            return refuse(2);
        }
        if (great(at(a))) {
            return refuse(5);
        }
        Mach l = leastOf(at(a));
        desk[to] = l;
        return done(l.n);
    }

    /** A set of join, as a text: state of A or -, then states of B; or states of A. */
    private static String firstSet(int how, Mach a, Mach b) {
        switch (how) {
            case 0: case 1: return "0/0";
            case 2: return "0";
            case 3: return "0/" + (a.ans[0] == 1 ? "[0]" : "[]");
            case 4: {
                TreeSet<Integer> set = new TreeSet<>();
                for (int s = 0; s < a.n; s++) {
                    if (a.ans[s] == 1) {
                        set.add(s);
                    }
                }
                return set.toString();
            }
            default: return "first";
        }
    }

    private static TreeSet<Integer> parse(String text) {
        TreeSet<Integer> set = new TreeSet<>();
        for (String part : text.replace("[", "").replace("]", "").split(",")) {
            if (!part.isBlank()) {
                set.add(Integer.parseInt(part.trim()));
            }
        }
        return set;
    }

    private static String led(Mach m, String s, int sign) {
        if (s.equals("-") || sign >= m.k) {
            return "-";
        }
        int t = m.takes[Integer.parseInt(s)][sign];
        return t < 0 ? "-" : "" + t;
    }

    private static TreeSet<Integer> ledAll(Mach m, TreeSet<Integer> set, int sign) {
        TreeSet<Integer> next = new TreeSet<>();
        for (int s : set) {
            String t = led(m, "" + s, sign);
            if (!t.equals("-")) {
                next.add(Integer.parseInt(t));
            }
        }
        return next;
    }

    private static boolean yes(Mach m, String s) {
        return !s.equals("-") && m.ans[Integer.parseInt(s)] == 1;
    }

    private static boolean anyYes(Mach m, TreeSet<Integer> set) {
        for (int s : set) {
            if (m.ans[s] == 1) {
                return true;
            }
        }
        return false;
    }

    private static String nextSet(int how, Mach a, Mach b, String set, int sign) {
        String[] two = set.split("/");
        switch (how) {
            case 0: case 1: return led(a, two[0], sign) + "/" + led(b, two[1], sign);
            case 2: return led(a, set, sign);
            case 3: {
                String s = led(a, two[0], sign);
                TreeSet<Integer> next = ledAll(b, parse(two[1]), sign);
                if (yes(a, s)) {
                    next.add(0);
                }
                return s + "/" + next;
            }
            case 4: {
                TreeSet<Integer> from = new TreeSet<>();
                TreeSet<Integer> into = parse(set);
                for (int s = 0; s < a.n; s++) {
                    String t = led(a, "" + s, sign);
                    if (!t.equals("-") && into.contains(Integer.parseInt(t))) {
                        from.add(s);
                    }
                }
                return from.toString();
            }
            default: {
                TreeSet<Integer> next = ledAll(a, parse(set.equals("first") ? "0" : set), sign);
                if (anyYes(a, next)) {
                    next.add(0);
                }
                return next.toString();
            }
        }
    }

    /** Whether a row of signs belongs, from the definition and not by sets. */
    static boolean belongs(int how, Mach a, Mach b, String w) {
        switch (how) {
            case 0: return a.answer(w) == 1 && b.answer(w) == 1;
            case 1: return a.answer(w) == 1 || b.answer(w) == 1;
            case 2: return a.answer(w) != 1;
            case 3:
                for (int i = 0; i <= w.length(); i++) {
                    if (a.answer(w.substring(0, i)) == 1 && b.answer(w.substring(i)) == 1) {
                        return true;
                    }
                }
                return false;
            case 4: return a.answer(new StringBuilder(w).reverse().toString()) == 1;
            default: {
                boolean[] can = new boolean[w.length() + 1];
                can[0] = true;
                for (int i = 1; i <= w.length(); i++) {
                    for (int j = 0; j < i; j++) {
                        can[i] |= can[j] && a.answer(w.substring(j, i)) == 1;
                    }
                }
                return can[w.length()];
            }
        }
    }

    int join(int how, int a, int b, int to) {
        if (how < 0 || how > 5) {
            return refuse(2);
        }
        boolean two = how == 0 || how == 1 || how == 3;
        if (machineFault(a) != 0) {
            return refuse(machineFault(a));
        }
        if (two && machineFault(b) != 0) {
            return refuse(machineFault(b));
        }
        if (!place(to)) {
            return refuse(2);
        }
        if (great(at(a)) || two && great(at(b))) {
            return refuse(5);
        }
        Mach x = leastOf(at(a));
        Mach y = two ? leastOf(at(b)) : x;
        if (Arrays.stream(x.ans).max().getAsInt() > 1 || Arrays.stream(y.ans).max().getAsInt() > 1) {
            return refuse(4);
        }
        Mach made = joined(how, x, y);
        if (made == null) {
            return refuse(5);
        }
        desk[to] = made;
        return done(made.n);
    }

    private static Mach joined(int how, Mach x, Mach y) {
        int k = Math.max(x.k, y.k);
        List<String> access = new ArrayList<>();
        Map<String, Integer> numbers = new HashMap<>();
        List<String> sets = new ArrayList<>();
        sets.add(firstSet(how, x, y));
        access.add("");
        numbers.put(sets.get(0), 0);
        for (int i = 0; i < sets.size(); i++) {
            for (int sign = 0; sign < k; sign++) {
                String next = nextSet(how, x, y, sets.get(i), sign);
                if (!numbers.containsKey(next)) {
                    numbers.put(next, sets.size());
                    sets.add(next);
                    access.add(access.get(i) + sign);
                    if (how >= 3 && sets.size() > 200) {
                        return null;
                    }
                }
            }
        }
        int n = sets.size();
        boolean[] in = new boolean[n];
        int[][] next = new int[n][k];
        for (int i = 0; i < n; i++) {
            in[i] = belongs(how, x, y, access.get(i));
            for (int sign = 0; sign < k; sign++) {
                next[i][sign] = numbers.get(nextSet(how, x, y, sets.get(i), sign));
            }
        }
        return fewestStates(n, k, in, next);
    }

    /** Marks the pairs that some row tells apart, until no more are found. */
    private static Mach fewestStates(int n, int k, boolean[] in, int[][] next) {
        boolean[][] apart = new boolean[n][n];
        boolean more = true;
        for (int i = 0; i < n; i++) {
            for (int j = 0; j < n; j++) {
                apart[i][j] = in[i] != in[j];
            }
        }
        while (more) {
            more = false;
            for (int i = 0; i < n; i++) {
                for (int j = 0; j < n; j++) {
                    for (int sign = 0; sign < k && !apart[i][j]; sign++) {
                        if (apart[next[i][sign]][next[j][sign]]) {
                            apart[i][j] = true;
                            more = true;
                        }
                    }
                }
            }
        }
        int[] state = new int[n];
        List<Integer> firsts = new ArrayList<>();
        for (int i = 0; i < n; i++) {
            state[i] = -1;
            for (int g = 0; g < firsts.size() && state[i] < 0; g++) {
                state[i] = apart[firsts.get(g)][i] ? -1 : g;
            }
            if (state[i] < 0) {
                state[i] = firsts.size();
                firsts.add(i);
            }
        }
        if (firsts.size() > 14) {
            return null;
        }
        Mach m = new Mach(0, firsts.size(), k);
        for (int g = 0; g < m.n; g++) {
            m.ans[g] = in[firsts.get(g)] ? 1 : 0;
            for (int sign = 0; sign < k; sign++) {
                m.takes[g][sign] = state[next[firsts.get(g)][sign]];
            }
        }
        return m;
    }

    private TreeSet<Long> suiteWords(int p, int h) {
        if (at(p) == null || great(at(p)) || h < 0 || h > 2) {
            return null;
        }
        Mach l = leastOf(at(p));
        if (l.n > 6 || l.k > 3) {
            return null;
        }
        List<String> access = accessWords(l);
        Set<String> firsts = new HashSet<>(access);
        for (String w : access) {
            for (int a = 0; a < l.k; a++) {
                firsts.add(w + a);
            }
        }
        List<String> middles = new ArrayList<>();
        middles.add("");
        for (int i = 0; i < middles.size(); i++) {
            for (int a = 0; a < l.k && middles.get(i).length() < h; a++) {
                middles.add(middles.get(i) + a);
            }
        }
        Set<String> lasts = new HashSet<>();
        lasts.add("");
        for (String u : access) {
            for (String v : access) {
                if (!u.equals(v)) {
                    lasts.add(firstUnlike(l, u, l, v));
                }
            }
        }
        TreeSet<Long> all = new TreeSet<>();
        for (String x : firsts) {
            for (String y : middles) {
                for (String z : lasts) {
                    all.add(number(x + y + z));
                }
            }
        }
        return all;
    }

    int suite(int p, int h) {
        TreeSet<Long> all = suiteWords(p, h);
        return all == null ? NONE : all.size();
    }

    long passes(int p, int q, int h) {
        TreeSet<Long> all = suiteWords(p, h);
        if (all == null || at(q) == null) {
            return NONE;
        }
        for (long w : all) {
            if (at(p).answer(text(w)) != at(q).answer(text(w))) {
                return w;
            }
        }
        return 0;
    }

    // ---- teachers

    int teacher(int p, int kind, int from, int limit) {
        if (!place(p)) {
            return refuse(2);
        }
        if (machineFault(from) != 0) {
            return refuse(machineFault(from));
        }
        if (kind < 0 || kind > 2) {
            return refuse(4);
        }
        if (limit < 0) {
            return refuse(3);
        }
        if (limit > 30) {
            return refuse(2);
        }
        if (great(at(from))) {
            return refuse(5);
        }
        Teach t = new Teach();
        t.kind = kind;
        t.secret = leastOf(at(from));
        t.limit = kind == 0 ? 30 : limit;
        desk[p] = t;
        return done(0);
    }

    int forget(int p, long word) {
        if (thingFault(p) != 0) {
            return refuse(thingFault(p));
        }
        if (!(desk[p] instanceof Teach) || ((Teach) desk[p]).kind != 2) {
            return refuse(4);
        }
        if (!isWord(word)) {
            return refuse(2);
        }
        List<Long> forgotten = ((Teach) desk[p]).forgotten;
        if (forgotten.contains(word)) {
            return refuse(6);
        }
        if (forgotten.size() == 8) {
            return refuse(5);
        }
        forgotten.add(word);
        return done(forgotten.size());
    }

    // ---- the pupil

    private int heardByPupil(String w) {
        return pupilTeacher.secret.answer(w);
    }

    private List<Integer> rowOf(String u) {
        List<Integer> row = new ArrayList<>();
        for (String v : behind) {
            row.add(heardByPupil(u + v));
        }
        return row;
    }

    private boolean closeOnce() {
        Set<List<Integer>> rows = new HashSet<>();
        for (String u : ahead) {
            rows.add(rowOf(u));
        }
        for (String u : ahead) {
            for (int a = 0; a < pupilTeacher.secret.k; a++) {
                if (heardByPupil(u + a) != 8 && !rows.contains(rowOf(u + a))) {
                    ahead.add(u + a);
                    return true;
                }
            }
        }
        return false;
    }

    private void close() {
        boolean more = true;
        while (more) {
            more = closeOnce();
        }
        Mach g = new Mach(2, ahead.size(), pupilTeacher.secret.k);
        for (int s = 0; s < g.n; s++) {
            g.ans[s] = heardByPupil(ahead.get(s));
            for (int a = 0; a < g.k; a++) {
                String x = ahead.get(s) + a;
                g.takes[s][a] = -1;
                for (int t = 0; t < g.n && heardByPupil(x) != 8; t++) {
                    if (rowOf(ahead.get(t)).equals(rowOf(x))) {
                        g.takes[s][a] = t;
                    }
                }
            }
        }
        g.kind = kindOf(g);
        guess = g;
        guesses++;
    }

    private int value(String w, int i) {
        int[] e = guess.end(w.substring(0, i));
        return e == null ? 8 : heardByPupil(ahead.get(e[0]) + w.substring(i));
    }

    private int learnWord(String w) {
        int low = 0;
        int high = w.length();
        while (high > low + 1) {
            int half = (low + high) / 2;
            if (value(w, half) == value(w, 0)) {
                low = half;
            } else {
                high = half;
            }
        }
        behind.add(w.substring(high));
        close();
        told = number(w);
        return done(guess.n);
    }

    int learn(int p) {
        if (thingFault(p) != 0) {
            return refuse(thingFault(p));
        }
        if (!(desk[p] instanceof Teach) || ((Teach) desk[p]).kind == 2) {
            return refuse(4);
        }
        pupilTeacher = (Teach) desk[p];
        ahead = new ArrayList<>(List.of(""));
        behind = new ArrayList<>(List.of(""));
        guesses = 0;
        told = 0;
        close();
        return done(guess.n);
    }

    int exam() {
        if (pupilTeacher == null) {
            return refuse(1);
        }
        String w = firstUnlike(pupilTeacher.secret, "", guess, "");
        if (w == null || w.length() > pupilTeacher.limit) {
            return done(0);
        }
        return learnWord(w);
    }

    int tell(long word) {
        if (pupilTeacher == null) {
            return refuse(1);
        }
        if (!isWord(word)) {
            return refuse(2);
        }
        if (heardByPupil(text(word)) == guess.answer(text(word))) {
            return refuse(6);
        }
        return learnWord(text(word));
    }

    int guess(int to) {
        if (pupilTeacher == null) {
            return refuse(1);
        }
        if (!place(to)) {
            return refuse(2);
        }
        desk[to] = guess.twin();
        return done(guess.n);
    }

    long ahead(int i) {
        return i < 0 || i >= ahead.size() ? NONE : number(ahead.get(i));
    }

    long behind(int j) {
        return j < 0 || j >= behind.size() ? NONE : number(behind.get(j));
    }

    int cell(int i, int a, int j) {
        if (ahead(i) == NONE || behind(j) == NONE || a < -1 || a >= pupilTeacher.secret.k) {
            return NONE;
        }
        return heardByPupil(ahead.get(i) + (a == -1 ? "" : "" + a) + behind.get(j));
    }

    // ---- known words

    int know(int p, long word) {
        if (thingFault(p) != 0) {
            return refuse(thingFault(p));
        }
        if (!(desk[p] instanceof Teach)) {
            return refuse(4);
        }
        if (!isWord(word)) {
            return refuse(2);
        }
        int v = heard((Teach) desk[p], word);
        if (v > 7) {
            return refuse(1);
        }
        if (knownWords.contains(word)) {
            return refuse(6);
        }
        if (knownWords.size() == 12) {
            return refuse(5);
        }
        knownWords.add(word);
        knownAnswers.add(v);
        return done(v);
    }

    int unknow() {
        int were = knownWords.size();
        knownWords.clear();
        knownAnswers.clear();
        return done(were);
    }

    int fewest(int to) {
        if (!place(to)) {
            return refuse(2);
        }
        if (knownWords.isEmpty()) {
            return refuse(1);
        }
        int k = 1;
        for (long w : knownWords) {
            for (char ch : text(w).toCharArray()) {
                k = Math.max(k, ch - '0' + 1);
            }
        }
        for (int n = 1; Math.pow(n, n * k) <= 20000; n++) {
            int[] table = new int[n * k];
            do {
                Mach m = fitted(n, k, table);
                if (m != null) {
                    desk[to] = m;
                    return done(n);
                }
            } while (nextTable(table, n));
        }
        return refuse(5);
    }

    private static boolean nextTable(int[] table, int n) {
        for (int i = table.length - 1; i >= 0; i--) {
            if (table[i] + 1 < n) {
                table[i]++;
                return true;
            }
            table[i] = 0;
        }
        return false;
    }

    private Mach fitted(int n, int k, int[] table) {
        Integer[] ans = new Integer[n];
        for (int i = 0; i < knownWords.size(); i++) {
            int s = 0;
            for (char ch : text(knownWords.get(i)).toCharArray()) {
                s = table[s * k + (ch - '0')];
            }
            if (ans[s] != null && !ans[s].equals(knownAnswers.get(i))) {
                return null;
            }
            ans[s] = knownAnswers.get(i);
        }
        Mach m = new Mach(0, n, k);
        for (int s = 0; s < n; s++) {
            m.ans[s] = ans[s] == null ? 0 : ans[s];
            for (int a = 0; a < k; a++) {
                m.takes[s][a] = table[s * k + a];
            }
        }
        m.kind = kindOf(m);
        return m;
    }

    int fits(int p) {
        if (at(p) == null) {
            return -2;
        }
        for (int i = 0; i < knownWords.size(); i++) {
            if (at(p).answer(text(knownWords.get(i))) != knownAnswers.get(i)) {
                return i;
            }
        }
        return NONE;
    }

    // ---- failures

    int blame(int p, int n) {
        if (!place(p)) {
            return refuse(2);
        }
        failures[p] = n;
        return done(0);
    }

    int raise(int p) {
        if (!place(p)) {
            return refuse(2);
        }
        if (failures[p] == null) {
            return refuse(1);
        }
        int n = failures[p];
        failures[p] = null;
        return done(n);
    }
}
