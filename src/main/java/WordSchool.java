import java.util.Arrays;

/**
 * A school of machines that answer words. The document's numbered promises say what each call does;
 * words in capitals here are the document's. All rows that a call needs are made in constructors,
 * because everything that one run of calls makes has to fit into one room.
 */
public final class WordSchool {
    public static final int NONE = -1;

    private static final int FINE = 0;
    private static final int MISSING = 1;
    private static final int BEYOND = 2;
    private static final int NEGATIVE = 3;
    private static final int KIND = 4;
    private static final int FULL = 5;
    private static final int ALIKE = 6;

    private static final int WHOLE = 0;
    private static final int MOORE = 1;
    private static final int PARTIAL = 2;
    private static final int COUNTED = 3;
    private static final int EXACT = 0;
    private static final int FORGETFUL = 2;
    private static final int FIRST_TEACHER = 4;

    private static final int PLACES = 16;
    private static final int MOST_STATES = 14;
    private static final int SIGNS = 4;
    private static final int COUNTS = 4;
    private static final int SPOTS = MOST_STATES * COUNTS;
    private static final int LONGEST = 30;
    private static final int MOST_ANSWERS = 8;
    private static final int NO_ANSWER = 8;
    private static final int FORGOTTEN = 9;
    private static final int MOST_FORGOTTEN = 8;
    private static final int MOST_KNOWN = 12;
    private static final int MOST_TABLES = 20000;
    private static final int MOST_SETS = 200;

    /** A ROW's length if the ROW is not there. */
    private static final int GONE = -1;
    /** A spot, STATE or node that there is not; also how a MISSING TAKE is kept. */
    private static final int NOWHERE = -1;
    /** The spot where each word begins: STATE 0 and COUNT 0. */
    private static final int START = 0;

    /** Pairs of STATES, one of each of two machines, each of which may be none. */
    private static final int MOST_NODES = (MOST_STATES + 1) * (MOST_STATES + 1);
    private static final int SLOTS = 512;
    private static final int SLOT_SHIFT = 23;
    private static final int SPREAD = 0x9E3779B1;
    private static final int NO_ROOM = -2;

    private static final int BOTH = 0;
    private static final int EITHER = 1;
    private static final int NOT = 2;
    private static final int ROWED = 3;
    private static final int TURNED = 4;
    private static final int AGAIN = 5;
    private static final int SET_BITS = MOST_STATES;
    private static final int ALL_STATES = (1 << SET_BITS) - 1;
    private static final int NO_STATE = MOST_STATES;

    private static final int SUITE_STATES = 6;
    private static final int SUITE_SIGNS = 3;
    private static final int SUITE_MIDDLE = 2;
    private static final int MOST_MIDDLES = 13;
    private static final int MOST_HEADS = 175;
    /** Besides the empty one each last part tells STATES apart that none ahead of it does. */
    private static final int MOST_LASTS = SUITE_STATES;
    private static final int SUITE_ROOM = 2048;
    private static final int SUITE_SHIFT = 40;
    private static final long LONG_SPREAD = 0x9E3779B97F4A7C15L;

    private final Place[] desk = new Place[PLACES];
    private final Chart chart = new Chart();
    private final Joining joining = new Joining();
    private final Tally tally = new Tally();
    private final Suite gathered = new Suite();
    private final Pupil pupil = new Pupil();
    private final Known known = new Known();
    private final Machine made = new Machine();
    private int finding = FINE;

    public WordSchool() {
        for (int p = 0; p < PLACES; p++) {
            desk[p] = new Place();
        }
    }

    // ---- laying machines

    public int machine(int p, int kind, int n, int k) {
        int fault = placeFault(p);
        if (fault == FINE && (kind < WHOLE || kind > COUNTED)) {
            fault = KIND;
        }
        if (fault == FINE && (n < 0 || k < 0)) {
            fault = NEGATIVE;
        }
        if (fault == FINE && (n < 1 || n > MOST_STATES || k < 1 || k > SIGNS)) {
            fault = BEYOND;
        }
        if (fault != FINE) {
            return refuse(fault);
        }
        desk[p].kept.begin(kind, n, k);
        desk[p].lies = kind;
        return done(n);
    }

    public int row(int p, int s, int n) {
        int fault = looseRowFault(p, s);
        if (fault == FINE && n < 0) {
            fault = NEGATIVE;
        }
        if (fault == FINE && n > desk[p].kept.k) {
            fault = BEYOND;
        }
        if (fault != FINE) {
            return refuse(fault);
        }
        desk[p].kept.newRow(s, n);
        return done(n);
    }

    public int cut(int p, int s) {
        int fault = looseRowFault(p, s);
        if (fault != FINE) {
            return refuse(fault);
        }
        desk[p].kept.newRow(s, GONE);
        return done(0);
    }

    public int take(int p, int s, int a, int t) {
        int fault = machineFault(p);
        if (fault == FINE) {
            fault = takeFault(desk[p].kept, s, a);
        }
        if (fault == FINE && (t < NOWHERE || t >= desk[p].kept.n)) {
            fault = BEYOND;
        }
        if (fault == FINE && t == NOWHERE && desk[p].kept.isFirm()) {
            fault = KIND;
        }
        if (fault != FINE) {
            return refuse(fault);
        }
        desk[p].kept.takes[s * SIGNS + a] = t;
        return done(0);
    }

    public int say(int p, int s, int v) {
        int fault = machineFault(p);
        if (fault == FINE && !desk[p].kept.hasState(s)) {
            fault = BEYOND;
        }
        if (fault == FINE && (v < 0 || v >= desk[p].kept.answersOfKind())) {
            fault = BEYOND;
        }
        if (fault != FINE) {
            return refuse(fault);
        }
        desk[p].kept.answers[s] = v;
        return done(0);
    }

    public int act(int p, int s, int a, int h) {
        int fault = machineFault(p);
        if (fault == FINE && desk[p].kept.kind != COUNTED) {
            fault = KIND;
        }
        if (fault == FINE) {
            fault = takeFault(desk[p].kept, s, a);
        }
        if (fault == FINE && (h < 0 || h > 3)) {
            fault = BEYOND;
        }
        if (fault != FINE) {
            return refuse(fault);
        }
        desk[p].kept.acts[s * SIGNS + a] = h;
        return done(0);
    }

    public int copy(int p, int s, int i, int t, int n) {
        int fault = machineFault(p);
        if (fault == FINE) {
            fault = copyFault(desk[p].kept, s, i, t, n);
        }
        if (fault != FINE) {
            return refuse(fault);
        }
        desk[p].kept.copyTakes(s, i, t, n);
        return done(0);
    }

    public int draw(int p, int seed) {
        int fault = machineFault(p);
        if (fault != FINE) {
            return refuse(fault);
        }
        desk[p].kept.fillByNumbers(seed);
        return done(0);
    }

    public int lift(int p) {
        int fault = thingFault(p);
        if (fault != FINE) {
            return refuse(fault);
        }
        desk[p].lies = NONE;
        return done(0);
    }

    // ---- ASKS

    public int kind(int p) {
        return isPlace(p) ? desk[p].lies : NONE;
    }

    public int size(int p, int what) {
        if (thingFault(p) != FINE || what < 0 || what > 1) {
            return NONE;
        }
        Place at = desk[p];
        if (at.hasMachine()) {
            return what == 0 ? at.kept.n : at.kept.k;
        }
        return what == 0 ? at.limit : at.forgottenCount;
    }

    public int leads(int p, int s, int a) {
        Machine at = machineAt(p);
        if (at == null || !at.hasState(s)) {
            return -3;
        }
        return at.hasTake(s, a) ? at.takes[s * SIGNS + a] : -2;
    }

    public int what(int p, int s, int a) {
        Machine at = machineAt(p);
        if (at == null || at.kind != COUNTED || !at.hasTake(s, a)) {
            return NONE;
        }
        return at.acts[s * SIGNS + a];
    }

    public int says(int p, int s) {
        Machine at = machineAt(p);
        return at == null || !at.hasState(s) ? NONE : at.answers[s];
    }

    public int answer(int p, long word) {
        if (thingFault(p) != FINE || !Words.isWord(word)) {
            return NONE;
        }
        return desk[p].answerTo(word);
    }

    public long count(int p, int v, int n) {
        Machine at = machineAt(p);
        if (at == null || !isAnswer(v) || n < 0 || n > LONGEST) {
            return NONE;
        }
        return tally.wordsOfLength(at, v, n);
    }

    public long word(int p, int v, long i) {
        Machine at = machineAt(p);
        if (at == null || !isAnswer(v) || i < 0) {
            return NONE;
        }
        return tally.wordAt(at, v, i);
    }

    public long place(int p, long word) {
        Machine at = machineAt(p);
        if (at == null || !Words.isWord(word)) {
            return NONE;
        }
        return tally.wordsBefore(at, word);
    }

    public long differ(int a, int b) {
        Machine x = machineAt(a);
        Machine y = machineAt(b);
        if (x == null || y == null || chart.isGreat(x) || chart.isGreat(y)) {
            return NONE;
        }
        return chart.firstUnlike(x, START, y, START);
    }

    // ---- machines made of others

    public int least(int a, int to) {
        int fault = machineFault(a);
        if (fault == FINE) {
            fault = placeFault(to);
        }
        if (fault == FINE && !chart.makeLeast(desk[a].kept, made)) {
            fault = FULL;
        }
        if (fault != FINE) {
            return refuse(fault);
        }
        return layMachine(made, to);
    }

    public int join(int how, int a, int b, int to) {
        boolean two = how == BOTH || how == EITHER || how == ROWED;
        int fault = how < BOTH || how > AGAIN ? BEYOND : machineFault(a);
        if (fault == FINE && two) {
            fault = machineFault(b);
        }
        if (fault == FINE) {
            fault = placeFault(to);
        }
        if (fault == FINE) {
            fault = joinFault(how, desk[a].kept, two ? desk[b].kept : desk[a].kept);
        }
        if (fault != FINE) {
            return refuse(fault);
        }
        return layMachine(made, to);
    }

    public int suite(int p, int h) {
        return gatherSuite(p, h) ? gathered.countWords() : NONE;
    }

    public long passes(int p, int q, int h) {
        Machine other = machineAt(q);
        if (other == null || !gatherSuite(p, h)) {
            return NONE;
        }
        return gathered.firstFailure(other);
    }

    // ---- teachers

    public int teacher(int p, int kind, int from, int limit) {
        int fault = placeFault(p);
        if (fault == FINE) {
            fault = machineFault(from);
        }
        if (fault == FINE) {
            fault = teachingFault(kind, limit);
        }
        if (fault == FINE && !chart.makeLeast(desk[from].kept, made)) {
            fault = FULL;
        }
        if (fault != FINE) {
            return refuse(fault);
        }
        desk[p].layTeacher(kind, made, limit);
        return done(0);
    }

    public int forget(int p, long word) {
        int fault = thingFault(p);
        if (fault == FINE && desk[p].lies != FIRST_TEACHER + FORGETFUL) {
            fault = KIND;
        }
        if (fault == FINE && !Words.isWord(word)) {
            fault = BEYOND;
        }
        if (fault == FINE && desk[p].hasForgotten(word)) {
            fault = ALIKE;
        }
        if (fault == FINE && desk[p].forgottenCount >= MOST_FORGOTTEN) {
            fault = FULL;
        }
        if (fault != FINE) {
            return refuse(fault);
        }
        return done(desk[p].loseWord(word));
    }

    // ---- the pupil

    public int learn(int p) {
        int fault = thingFault(p);
        if (fault == FINE && (desk[p].hasMachine() || desk[p].lies == FIRST_TEACHER + FORGETFUL)) {
            fault = KIND;
        }
        if (fault != FINE) {
            return refuse(fault);
        }
        pupil.beginAnew(desk[p].kept, desk[p].limit);
        return done(pupil.guessed.n);
    }

    public int exam() {
        if (!pupil.isThere) {
            return refuse(MISSING);
        }
        long word = chart.firstUnlike(pupil.secret, START, pupil.guessed, START);
        int length = Words.lengthOf(word);
        if (length == NONE || length > pupil.limit) {
            return done(0);
        }
        pupil.learnWord(word);
        return done(pupil.guessed.n);
    }

    public int tell(long word) {
        int fault = pupil.isThere ? FINE : MISSING;
        if (fault == FINE && !Words.isWord(word)) {
            fault = BEYOND;
        }
        if (fault == FINE && pupil.secret.answerTo(word) == pupil.guessed.answerTo(word)) {
            fault = ALIKE;
        }
        if (fault != FINE) {
            return refuse(fault);
        }
        pupil.learnWord(word);
        return done(pupil.guessed.n);
    }

    public int guess(int to) {
        int fault = pupil.isThere ? placeFault(to) : MISSING;
        if (fault != FINE) {
            return refuse(fault);
        }
        return layMachine(pupil.guessed, to);
    }

    public long ahead(int i) {
        return i >= 0 && i < pupil.aheadCount ? pupil.aheadWords[i] : NONE;
    }

    public long behind(int j) {
        return j >= 0 && j < pupil.behindCount ? pupil.behindWords[j] : NONE;
    }

    public int cell(int i, int a, int j) {
        return pupil.cellOf(i, a, j);
    }

    public long told() {
        return pupil.toldWord;
    }

    public int guesses() {
        return pupil.guessCount;
    }

    // ---- known words

    public int know(int p, long word) {
        int fault = thingFault(p);
        if (fault == FINE && desk[p].hasMachine()) {
            fault = KIND;
        }
        if (fault == FINE && !Words.isWord(word)) {
            fault = BEYOND;
        }
        if (fault == FINE && !isAnswer(desk[p].answerTo(word))) {
            fault = MISSING;
        }
        if (fault == FINE && known.holds(word)) {
            fault = ALIKE;
        }
        if (fault == FINE && known.held >= MOST_KNOWN) {
            fault = FULL;
        }
        if (fault != FINE) {
            return refuse(fault);
        }
        int heard = desk[p].answerTo(word);
        known.keep(word, heard);
        return done(heard);
    }

    public int unknow() {
        int were = known.held;
        known.held = 0;
        return done(were);
    }

    public int fewest(int to) {
        int fault = placeFault(to);
        if (fault == FINE && known.held == 0) {
            fault = MISSING;
        }
        if (fault == FINE && !known.makeFewest(made)) {
            fault = FULL;
        }
        if (fault != FINE) {
            return refuse(fault);
        }
        return layMachine(made, to);
    }

    public int fits(int p) {
        Machine at = machineAt(p);
        return at == null ? -2 : known.firstUnfit(at);
    }

    // ---- failures, and what was found

    public int blame(int p, int n) {
        int fault = placeFault(p);
        if (fault != FINE) {
            return refuse(fault);
        }
        desk[p].isBlamed = true;
        desk[p].failure = n;
        return done(0);
    }

    public int raise(int p) {
        int fault = placeFault(p);
        if (fault == FINE && !desk[p].isBlamed) {
            fault = MISSING;
        }
        if (fault != FINE) {
            return refuse(fault);
        }
        desk[p].isBlamed = false;
        return done(desk[p].failure);
    }

    public int status() {
        return finding;
    }

    // ---- what the calls share

    private int refuse(int fault) {
        finding = fault;
        return NONE;
    }

    private int done(int result) {
        finding = FINE;
        return result;
    }

    private int layMachine(Machine from, int to) {
        desk[to].layMachine(from);
        return done(from.n);
    }

    private static boolean isPlace(int p) {
        return p >= 0 && p < PLACES;
    }

    private static boolean isAnswer(int v) {
        return v >= 0 && v < MOST_ANSWERS;
    }

    private static int placeFault(int p) {
        return isPlace(p) ? FINE : BEYOND;
    }

    private int thingFault(int p) {
        if (!isPlace(p)) {
            return BEYOND;
        }
        return desk[p].lies == NONE ? MISSING : FINE;
    }

    private int machineFault(int p) {
        int fault = thingFault(p);
        return fault == FINE && !desk[p].hasMachine() ? KIND : fault;
    }

    private Machine machineAt(int p) {
        return machineFault(p) == FINE ? desk[p].kept : null;
    }

    /** What keeps row and cut from STATE s: only the ROWS of PARTIAL and COUNTED machines change. */
    private int looseRowFault(int p, int s) {
        int fault = machineFault(p);
        if (fault == FINE && desk[p].kept.isFirm()) {
            fault = KIND;
        }
        if (fault == FINE && !desk[p].kept.hasState(s)) {
            fault = BEYOND;
        }
        return fault;
    }

    private static int takeFault(Machine at, int s, int a) {
        if (!at.hasState(s)) {
            return BEYOND;
        }
        if (at.lengths[s] == GONE) {
            return MISSING;
        }
        return at.hasTake(s, a) ? FINE : BEYOND;
    }

    private static int copyFault(Machine at, int s, int i, int t, int n) {
        if (!at.hasState(s) || !at.hasState(t)) {
            return BEYOND;
        }
        if (at.lengths[s] == GONE || at.lengths[t] == GONE) {
            return MISSING;
        }
        // the sum of i and n could go round, the difference can't once n is known to be small
        boolean outside = i < 0 || n < 0 || n > at.lengths[t] || i > at.lengths[s] - n;
        return outside ? BEYOND : FINE;
    }

    private static int teachingFault(int kind, int limit) {
        if (kind < EXACT || kind > FORGETFUL) {
            return KIND;
        }
        if (limit < 0) {
            return NEGATIVE;
        }
        return limit > LONGEST ? BEYOND : FINE;
    }

    /** Joins into made; where one machine alone is joined, it stands for the second too. */
    private int joinFault(int how, Machine first, Machine second) {
        if (!chart.makeLeast(first, joining.first) || !chart.makeLeast(second, joining.second)) {
            return FULL;
        }
        if (joining.first.topAnswer() > 1 || joining.second.topAnswer() > 1) {
            return KIND;
        }
        joining.begin(how);
        int most = how >= ROWED ? MOST_SETS : MOST_NODES;
        if (!chart.explore(joining, joining.signs(), most) || chart.groupNodes() > MOST_STATES) {
            return FULL;
        }
        chart.writeGroups(made, joining.signs());
        return FINE;
    }

    /** False if the machine at p has no SUITE for h. */
    private boolean gatherSuite(int p, int h) {
        Machine at = machineAt(p);
        if (at == null || h < 0 || h > SUITE_MIDDLE || !chart.makeLeast(at, gathered.least)) {
            return false;
        }
        if (gathered.least.n > SUITE_STATES || gathered.least.k > SUITE_SIGNS) {
            return false;
        }
        gathered.gather(h, chart);
        return true;
    }

    /** Words as numbers: their SIGNS are digits of base 4, behind a leading 1. */
    private static final class Words {
        static int lengthOf(long word) {
            for (int m = 0; m <= LONGEST; m++) {
                if (word >> 2 * m == 1) {
                    return m;
                }
            }
            return NONE;
        }

        static boolean isWord(long word) {
            return lengthOf(word) != NONE;
        }

        /** The SIGN of a word that has so many SIGNS behind it. */
        static int signAt(long word, int behind) {
            return (int) (word >> 2 * behind) & 3;
        }

        static long joined(long front, long back) {
            int m = lengthOf(back);
            return m <= 0 ? front : (front << 2 * m) + lastSigns(back, m) - (1L << 2 * m);
        }

        static long lastSigns(long word, int m) {
            long lead = 1L << 2 * m;
            return (word & (lead - 1)) + lead;
        }
    }

    /** What leads from key to key by SIGNS, so that one chart serves machines and joins alike. */
    private abstract static class Walk {
        abstract int firstKey();

        abstract int nextKey(int key, int sign);

        abstract int answerAt(int key);
    }

    /**
     * A machine. Its keys as a Walk are spots: pairs of a STATE and a COUNT. Machines that are not
     * COUNTED have ACTS 0 alone, so that all KINDS run by the same steps.
     */
    private static final class Machine extends Walk {
        int kind;
        int n;
        int k;
        final int[] lengths = new int[MOST_STATES];
        final int[] takes = new int[MOST_STATES * SIGNS];
        final int[] acts = new int[MOST_STATES * SIGNS];
        final int[] answers = new int[MOST_STATES];

        void begin(int newKind, int newN, int newK) {
            kind = newKind;
            n = newN;
            k = newK;
            Arrays.fill(lengths, newK);
            Arrays.fill(takes, 0);
            Arrays.fill(acts, 0);
            Arrays.fill(answers, 0);
        }

        void become(Machine other) {
            kind = other.kind;
            n = other.n;
            k = other.k;
            System.arraycopy(other.lengths, 0, lengths, 0, MOST_STATES);
            System.arraycopy(other.takes, 0, takes, 0, MOST_STATES * SIGNS);
            System.arraycopy(other.acts, 0, acts, 0, MOST_STATES * SIGNS);
            System.arraycopy(other.answers, 0, answers, 0, MOST_STATES);
        }

        boolean isFirm() {
            return kind == WHOLE || kind == MOORE;
        }

        int answersOfKind() {
            return kind == WHOLE ? 2 : MOST_ANSWERS;
        }

        boolean hasState(int s) {
            return s >= 0 && s < n;
        }

        boolean hasTake(int s, int a) {
            return s >= 0 && s < n && a >= 0 && a < lengths[s];
        }

        int leadOf(int s, int a) {
            return hasTake(s, a) ? takes[s * SIGNS + a] : NOWHERE;
        }

        void newRow(int s, int length) {
            lengths[s] = length;
            for (int a = 0; a < SIGNS; a++) {
                takes[s * SIGNS + a] = NOWHERE;
                acts[s * SIGNS + a] = 0;
            }
        }

        void copyTakes(int s, int i, int t, int many) {
            System.arraycopy(takes, s * SIGNS + i, takes, t * SIGNS, many);
            System.arraycopy(acts, s * SIGNS + i, acts, t * SIGNS, many);
        }

        void fillByNumbers(int seed) {
            int x = seed;
            for (int s = 0; s < n; s++) {
                for (int a = 0; a < lengths[s]; a++) {
                    x = stirred(x);
                    takes[s * SIGNS + a] = below(x, n);
                    if (kind == COUNTED) {
                        x = stirred(x);
                        acts[s * SIGNS + a] = below(x, 4);
                    }
                }
                x = stirred(x);
                answers[s] = below(x, answersOfKind());
            }
        }

        static int stirred(int x) {
            return 1103515245 * x + 12345;
        }

        static int below(int x, int m) {
            return m < 1 ? 0 : (x >>> 16) % m;
        }

        /** A machine's KIND by what it has, where the document lets that choose. */
        void settleKind() {
            boolean lacks = false;
            for (int s = 0; s < n; s++) {
                for (int a = 0; a < k; a++) {
                    lacks = lacks || takes[s * SIGNS + a] == NOWHERE;
                }
            }
            int firm = topAnswer() > 1 ? MOORE : WHOLE;
            kind = lacks ? PARTIAL : firm;
        }

        int topAnswer() {
            int top = 0;
            for (int s = 0; s < n; s++) {
                top = Math.max(top, answers[s]);
            }
            return top;
        }

        int firstKey() {
            return START;
        }

        int nextKey(int spot, int sign) {
            int s = spot / COUNTS;
            if (spot < 0 || s >= n || sign < 0 || sign >= lengths[s]) {
                return NOWHERE;
            }
            int t = takes[s * SIGNS + sign];
            int c = countAfter(acts[s * SIGNS + sign], spot % COUNTS);
            return t == NOWHERE || c == NOWHERE ? NOWHERE : t * COUNTS + c;
        }

        static int countAfter(int act, int count) {
            switch (act) {
                case 1:
                    return count < 3 ? count + 1 : NOWHERE;
                case 2:
                    return count > 0 ? count - 1 : NOWHERE;
                case 3:
                    return count == 0 ? 0 : NOWHERE;
                default:
                    return count;
            }
        }

        int answerAt(int spot) {
            return spot >= 0 && spot / COUNTS < n ? answers[spot / COUNTS] : NO_ANSWER;
        }

        /** The spot at which a word ends that is run from a spot on. */
        int runFrom(int spot, long word) {
            int at = spot;
            for (int behind = Words.lengthOf(word) - 1; behind >= 0 && at != NOWHERE; behind--) {
                at = nextKey(at, Words.signAt(word, behind));
            }
            return at;
        }

        int answerTo(long word) {
            return answerAt(runFrom(START, word));
        }

        /** Machines that are not COUNTED have spots of COUNT 0 alone, this far from one another. */
        int spotStep() {
            return kind == COUNTED ? 1 : COUNTS;
        }
    }

    /** What is at a PLACE: a machine or a TEACHER (kept is its SECRET), and a FAILURE besides. */
    private static final class Place {
        int lies = NONE;
        final Machine kept = new Machine();
        int limit;
        int forgottenCount;
        final long[] forgotten = new long[MOST_FORGOTTEN];
        boolean isBlamed;
        int failure;

        boolean hasMachine() {
            return lies >= WHOLE && lies <= COUNTED;
        }

        void layMachine(Machine from) {
            kept.become(from);
            lies = from.kind;
        }

        void layTeacher(int kind, Machine secret, int newLimit) {
            kept.become(secret);
            lies = FIRST_TEACHER + kind;
            limit = kind == EXACT ? LONGEST : newLimit;
            forgottenCount = 0;
        }

        boolean hasForgotten(long word) {
            for (int i = 0; i < forgottenCount; i++) {
                if (forgotten[i] == word) {
                    return true;
                }
            }
            return false;
        }

        int loseWord(long word) {
            if (forgottenCount < MOST_FORGOTTEN) {
                forgotten[forgottenCount] = word;
                forgottenCount++;
            }
            return forgottenCount;
        }

        int answerTo(long word) {
            boolean lost = lies == FIRST_TEACHER + FORGETFUL && hasForgotten(word);
            return lost ? FORGOTTEN : kept.answerTo(word);
        }
    }

    /**
     * The nodes that come up from a first one on by all rows of SIGNS, in the ORDER of their first
     * words. Groups of nodes that no row tells apart are so numbered in that ORDER too.
     */
    private static final class Chart {
        private int nodes;
        private int signs;
        private int groups;
        private final int[] keys = new int[MOST_NODES];
        private final int[] slotOf = new int[MOST_NODES];
        private final int[] slots = new int[SLOTS];
        private final long[] firstWords = new long[MOST_NODES];
        private final int[] leadsTo = new int[MOST_NODES * SIGNS];
        private final int[] answers = new int[MOST_NODES];
        private final int[] groupOf = new int[MOST_NODES];
        private final int[] newGroupOf = new int[MOST_NODES];
        private final int[] firstOf = new int[MOST_STATES];

        /** Frees only the slots in use: a chart is mostly far smaller than the room for it. */
        private void wipe() {
            for (int i = 0; i < nodes; i++) {
                slots[slotOf[i]] = 0;
            }
            nodes = 0;
        }

        /** The node with that key, a new one if there is none and room for it, else NO_ROOM. */
        private int nodeOf(int key, int most) {
            int slot = key * SPREAD >>> SLOT_SHIFT;
            for (int tries = 0; tries < SLOTS; tries++) {
                int node = slots[slot] - 1;
                if (node >= 0 && keys[node] == key) {
                    return node;
                }
                if (node < 0 && (nodes >= most || nodes >= MOST_NODES)) {
                    return NO_ROOM;
                }
                if (node < 0) {
                    keys[nodes] = key;
                    slotOf[nodes] = slot;
                    nodes++;
                    slots[slot] = nodes;
                    return nodes - 1;
                }
                slot = (slot + 1) % SLOTS;
            }
            return NO_ROOM;
        }

        /** Charts a walk by the SIGNS below k; false if more nodes than most come up. */
        boolean explore(Walk walk, int k, int most) {
            wipe();
            signs = k;
            nodeOf(walk.firstKey(), most);
            for (int i = 0; i < nodes && i < MOST_NODES; i++) {
                answers[i] = walk.answerAt(keys[i]);
                for (int a = 0; a < k; a++) {
                    int key = walk.nextKey(keys[i], a);
                    int to = key == NOWHERE ? NOWHERE : nodeOf(key, most);
                    if (to == NO_ROOM) {
                        return false;
                    }
                    leadsTo[i * SIGNS + a] = to;
                }
            }
            return true;
        }

        boolean isGreat(Machine machine) {
            return machine.kind == COUNTED && !explore(machine, machine.k, MOST_STATES);
        }

        /** Puts nodes into groups; answers how many, one more than MOST_STATES for any greater number. */
        int groupNodes() {
            for (int i = 0; i < nodes; i++) {
                groupOf[i] = 0;
            }
            groups = 0;
            // each round but the last makes one group more at least
            for (int round = 0; round <= MOST_STATES; round++) {
                int before = groups;
                splitGroups();
                if (groups == before || groups > MOST_STATES) {
                    return groups;
                }
            }
            return groups;
        }

        private void splitGroups() {
            groups = 0;
            for (int i = 0; i < nodes; i++) {
                int group = groupLike(i);
                if (group == MOST_STATES) {
                    groups = MOST_STATES + 1;
                    return;
                }
                if (group == groups) {
                    firstOf[groups] = i;
                    groups++;
                }
                newGroupOf[i] = group;
            }
            System.arraycopy(newGroupOf, 0, groupOf, 0, nodes);
        }

        private int groupLike(int i) {
            for (int g = 0; g < groups; g++) {
                if (areAlike(i, firstOf[g])) {
                    return g;
                }
            }
            return groups;
        }

        private boolean areAlike(int i, int j) {
            if (answers[i] != answers[j]) {
                return false;
            }
            for (int a = 0; a < signs; a++) {
                int x = leadsTo[i * SIGNS + a];
                int y = leadsTo[j * SIGNS + a];
                if (x != y && (x < 0 || y < 0 || groupOf[x] != groupOf[y])) {
                    return false;
                }
            }
            return true;
        }

        private int groupBehind(int i, int a) {
            int to = leadsTo[i * SIGNS + a];
            return to < 0 ? NOWHERE : groupOf[to];
        }

        /** Writes the groups as STATES; groupNodes has found at most MOST_STATES of them. */
        void writeGroups(Machine to, int k) {
            to.begin(PARTIAL, Math.min(groups, MOST_STATES), k);
            for (int g = 0; g < to.n; g++) {
                to.answers[g] = answers[firstOf[g]];
                for (int a = 0; a < k; a++) {
                    to.takes[g * SIGNS + a] = groupBehind(firstOf[g], a);
                }
            }
            to.settleKind();
        }

        /** Makes the LEAST machine; false if from is GREAT. */
        boolean makeLeast(Machine from, Machine to) {
            if (!explore(from, from.k, MOST_STATES)) {
                return false;
            }
            groupNodes();
            writeGroups(to, signsUsed());
            return true;
        }

        private int signsUsed() {
            int used = 1;
            for (int i = 0; i < nodes; i++) {
                for (int a = used; a < signs; a++) {
                    if (leadsTo[i * SIGNS + a] != NOWHERE) {
                        used = a + 1;
                    }
                }
            }
            return used;
        }

        /** The first row of SIGNS that two machines, run from these spots on, answer unlike; 0: none. */
        long firstUnlike(Machine x, int fromX, Machine y, int fromY) {
            wipe();
            int most = Math.max(x.k, y.k);
            nodeOf(pairKey(fromX, fromY), MOST_NODES);
            firstWords[0] = 1;
            for (int i = 0; i < nodes && i < MOST_NODES; i++) {
                int atX = keys[i] / (SPOTS + 1) - 1;
                int atY = keys[i] % (SPOTS + 1) - 1;
                if (x.answerAt(atX) != y.answerAt(atY)) {
                    return firstWords[i];
                }
                for (int a = 0; a < most; a++) {
                    addPair(pairKey(x.nextKey(atX, a), y.nextKey(atY, a)), 4 * firstWords[i] + a);
                }
            }
            return 0;
        }

        private void addPair(int key, long word) {
            int before = nodes;
            int node = nodeOf(key, MOST_NODES);
            if (node >= before) {
                firstWords[node] = word;
            }
        }

        private static int pairKey(int spotX, int spotY) {
            return (spotX + 1) * (SPOTS + 1) + spotY + 1;
        }
    }

    /** The walk through pairs of STATES or SETS by which join finds what BELONGS. */
    private static final class Joining extends Walk {
        /** The first SET of AGAIN is like STATE 0 alone, but no SET of STATES has this bit. */
        private static final int FIRST_SET = 1 << SET_BITS;

        final Machine first = new Machine();
        final Machine second = new Machine();
        private int how;
        private int yesFirst;
        private int yesSecond;

        /** Begins when the LEAST machines are in first and second. */
        void begin(int newHow) {
            how = newHow;
            yesFirst = yesStates(first);
            yesSecond = yesStates(second);
        }

        private static int yesStates(Machine of) {
            int set = 0;
            for (int s = 0; s < of.n; s++) {
                if (of.answers[s] == 1) {
                    set |= 1 << s;
                }
            }
            return set;
        }

        int signs() {
            return Math.max(first.k, second.k);
        }

        int firstKey() {
            switch (how) {
                case ROWED:
                    return withSecond(0, 0);
                case TURNED:
                    return yesFirst;
                case AGAIN:
                    return FIRST_SET;
                default:
                    return paired(0, 0);
            }
        }

        int nextKey(int key, int sign) {
            int front = key >> SET_BITS;
            int back = key & ALL_STATES;
            switch (how) {
                case ROWED:
                    return withSecond(movedState(first, front, sign), movedSet(second, back, sign));
                case TURNED:
                    return setLedInto(back, sign);
                case AGAIN:
                    return withFirst(movedSet(first, key == FIRST_SET ? 1 : back, sign));
                default:
                    return paired(movedState(first, front, sign), movedState(second, back, sign));
            }
        }

        int answerAt(int key) {
            return belongs(key, key >> SET_BITS, key & ALL_STATES) ? 1 : 0;
        }

        private boolean belongs(int key, int front, int back) {
            switch (how) {
                case BOTH:
                    return isIn(front, yesFirst) && isIn(back, yesSecond);
                case EITHER:
                    return isIn(front, yesFirst) || isIn(back, yesSecond);
                case NOT:
                    return !isIn(front, yesFirst);
                case ROWED:
                    return (back & yesSecond) != 0;
                case TURNED:
                    return isIn(0, back);
                default:
                    return key == FIRST_SET || (back & yesFirst) != 0;
            }
        }

        private static int paired(int front, int back) {
            return front << SET_BITS | back;
        }

        private static boolean isIn(int s, int set) {
            return (set >> s & 1) == 1;
        }

        private int withSecond(int front, int set) {
            return paired(front, isIn(front, yesFirst) ? set | 1 : set);
        }

        private int withFirst(int set) {
            return (set & yesFirst) != 0 ? set | 1 : set;
        }

        private static int movedState(Machine by, int s, int sign) {
            int t = by.leadOf(s, sign);
            return t == NOWHERE ? NO_STATE : t;
        }

        private static int movedSet(Machine by, int set, int sign) {
            int moved = 0;
            for (int s = 0; s < by.n; s++) {
                int t = isIn(s, set) ? by.leadOf(s, sign) : NOWHERE;
                if (t != NOWHERE) {
                    moved |= 1 << t;
                }
            }
            return moved;
        }

        private int setLedInto(int set, int sign) {
            int from = 0;
            for (int s = 0; s < first.n; s++) {
                int t = first.leadOf(s, sign);
                if (t != NOWHERE && isIn(t, set)) {
                    from |= 1 << s;
                }
            }
            return from;
        }
    }

    /** Counts words with an ANSWER: row m of ways has, for each spot, how many of m SIGNS get there. */
    private static final class Tally {
        private final long[] ways = new long[(LONGEST + 1) * SPOTS];
        /** Where each SIGN leads from each spot: it is asked for each length, but found once. */
        private final int[] steps = new int[SPOTS * SIGNS];

        long wordsOfLength(Machine by, int v, int m) {
            fillFirst(by, v);
            for (int length = 1; length <= m; length++) {
                fillNext(by, length);
            }
            return waysFrom(m, START);
        }

        long wordAt(Machine by, int v, long i) {
            long left = i;
            fillFirst(by, v);
            for (int length = 0; length <= LONGEST; length++) {
                if (length > 0) {
                    fillNext(by, length);
                }
                long here = waysFrom(length, START);
                if (left < here) {
                    return spelled(by, length, left);
                }
                left -= here;
            }
            return NONE;
        }

        /** How many words with the same ANSWER come ahead of this one. */
        long wordsBefore(Machine by, long word) {
            int v = by.answerTo(word);
            if (v == NO_ANSWER) {
                return NONE;
            }
            int m = Words.lengthOf(word);
            long before = 0;
            fillFirst(by, v);
            for (int length = 1; length <= m; length++) {
                before += waysFrom(length - 1, START);
                fillNext(by, length);
            }
            int spot = START;
            for (int behind = m - 1; behind >= 0; behind--) {
                int sign = Words.signAt(word, behind);
                for (int a = 0; a < sign; a++) {
                    before += waysFrom(behind, by.nextKey(spot, a));
                }
                spot = by.nextKey(spot, sign);
            }
            return before;
        }

        private void fillFirst(Machine by, int v) {
            int step = by.spotStep();
            for (int spot = 0; spot < by.n * COUNTS; spot += step) {
                ways[spot] = by.answerAt(spot) == v ? 1 : 0;
                for (int a = 0; a < by.k; a++) {
                    steps[spot * SIGNS + a] = by.nextKey(spot, a);
                }
            }
        }

        private void fillNext(Machine by, int length) {
            int step = by.spotStep();
            for (int spot = 0; spot < by.n * COUNTS; spot += step) {
                long sum = 0;
                for (int a = 0; a < by.k; a++) {
                    sum += waysFrom(length - 1, steps[spot * SIGNS + a]);
                }
                ways[length * SPOTS + spot] = sum;
            }
        }

        private long waysFrom(int length, int spot) {
            return spot == NOWHERE ? 0 : ways[length * SPOTS + spot];
        }

        /** Word number i of those of that length; i is below their number. */
        private long spelled(Machine by, int length, long i) {
            long word = 1;
            long left = i;
            int spot = START;
            for (int behind = length - 1; behind >= 0; behind--) {
                int a = 0;
                long here = waysFrom(behind, by.nextKey(spot, a));
                while (a < SIGNS - 1 && left >= here) {
                    left -= here;
                    a++;
                    here = waysFrom(behind, by.nextKey(spot, a));
                }
                word = 4 * word + a;
                spot = by.nextKey(spot, a);
            }
            return word;
        }
    }

    /** A SUITE: each of its words is a head (first and middle part) with a last part behind it. */
    private static final class Suite {
        final Machine least = new Machine();
        private int headCount;
        private int middleCount;
        private int lastCount;
        private final long[] access = new long[SUITE_STATES];
        private final long[] heads = new long[MOST_HEADS];
        private final long[] middles = new long[MOST_MIDDLES];
        private final long[] lasts = new long[MOST_LASTS];
        private final long[] room = new long[SUITE_ROOM];

        /** Gathers the SUITE of the machine in least. */
        void gather(int h, Chart chart) {
            gatherMiddles(h);
            gatherHeads();
            gatherLasts(chart);
        }

        private void gatherMiddles(int h) {
            middles[0] = 1;
            middleCount = 1;
            for (int i = 0; i < middleCount && i < MOST_MIDDLES; i++) {
                boolean grows = Words.lengthOf(middles[i]) < h;
                for (int a = 0; grows && a < least.k && middleCount < MOST_MIDDLES; a++) {
                    middles[middleCount] = 4 * middles[i] + a;
                    middleCount++;
                }
            }
        }

        /**
         * No head comes twice: one that goes on from an ACCESS word by a SIGN that makes another
         * ACCESS word is a head of that one already, so only the other SIGNS get middle parts.
         */
        private void gatherHeads() {
            headCount = 0;
            access[0] = 1;
            int reached = 1;
            for (int s = 0; s < least.n && s < SUITE_STATES; s++) {
                addHead(access[s]);
                for (int a = 0; a < least.k; a++) {
                    long longer = 4 * access[s] + a;
                    // STATES of a LEAST machine come up in the order of their numbers
                    if (reached < SUITE_STATES && least.leadOf(s, a) == reached) {
                        access[reached] = longer;
                        reached++;
                    } else {
                        addHeads(longer);
                    }
                }
            }
        }

        private void addHeads(long front) {
            for (int i = 0; i < middleCount; i++) {
                addHead(Words.joined(front, middles[i]));
            }
        }

        private void addHead(long head) {
            if (headCount < MOST_HEADS) {
                heads[headCount] = head;
                headCount++;
            }
        }

        private void gatherLasts(Chart chart) {
            lasts[0] = 1;
            lastCount = 1;
            for (int t = 1; t < least.n; t++) {
                for (int s = 0; s < t; s++) {
                    addLast(chart.firstUnlike(least, s * COUNTS, least, t * COUNTS));
                }
            }
        }

        private void addLast(long last) {
            for (int i = 0; i < lastCount; i++) {
                if (lasts[i] == last) {
                    return;
                }
            }
            if (lastCount < MOST_LASTS) {
                lasts[lastCount] = last;
                lastCount++;
            }
        }

        /** A word may come up by several heads: each is put into the room once. */
        int countWords() {
            int slots = roomFor(headCount * lastCount);
            for (int i = 0; i < slots; i++) {
                room[i] = 0;
            }
            int many = 0;
            for (int i = 0; i < headCount; i++) {
                for (int j = 0; j < lastCount; j++) {
                    if (isNew(Words.joined(heads[i], lasts[j]), slots)) {
                        many++;
                    }
                }
            }
            return many;
        }

        private static int roomFor(int many) {
            int slots = 16;
            while (slots < SUITE_ROOM && slots < many + many / 2) {
                slots *= 2;
            }
            return slots;
        }

        private boolean isNew(long word, int slots) {
            int slot = (int) (word * LONG_SPREAD >>> SUITE_SHIFT) & (slots - 1);
            for (int tries = 0; tries < slots; tries++) {
                if (room[slot] == 0) {
                    room[slot] = word;
                    return true;
                }
                if (room[slot] == word) {
                    return false;
                }
                slot = (slot + 1) & (slots - 1);
            }
            return false;
        }

        /** The first word of the SUITE that the other machine answers unlike; 0 if there is none. */
        long firstFailure(Machine other) {
            long first = 0;
            for (int i = 0; i < headCount; i++) {
                int x = least.runFrom(START, heads[i]);
                int y = other.runFrom(START, heads[i]);
                for (int j = 0; j < lastCount && (x != NOWHERE || y != NOWHERE); j++) {
                    long word = Words.joined(heads[i], lasts[j]);
                    boolean sooner = first == 0 || word < first;
                    if (sooner && areUnlike(x, other, y, lasts[j])) {
                        first = word;
                    }
                }
            }
            return first;
        }

        private boolean areUnlike(int x, Machine other, int y, long last) {
            int heard = least.answerAt(least.runFrom(x, last));
            return heard != other.answerAt(other.runFrom(y, last));
        }
    }

    /**
     * The pupil. A row of SIGNS is kept as the STATE of the SECRET at which it ends: a ROW follows
     * from that STATE, and no word has to be longer than a number can tell.
     */
    private static final class Pupil {
        boolean isThere;
        int limit;
        int aheadCount;
        int behindCount;
        int guessCount;
        long toldWord;
        final Machine secret = new Machine();
        final Machine guessed = new Machine();
        final long[] aheadWords = new long[MOST_STATES];
        final long[] behindWords = new long[MOST_STATES];
        private final int[] endOf = new int[MOST_STATES];
        private final int[] rows = new int[MOST_STATES * MOST_STATES];

        void beginAnew(Machine newSecret, int newLimit) {
            isThere = true;
            secret.become(newSecret);
            limit = newLimit;
            aheadWords[0] = 1;
            endOf[0] = 0;
            aheadCount = 1;
            behindCount = 0;
            guessCount = 0;
            toldWord = 0;
            addBehind(1);
            closeAhead();
            makeGuess();
        }

        /** Each word that is learnt makes a word of AHEAD more: there is always room behind too. */
        private void addBehind(long word) {
            if (behindCount >= MOST_STATES) {
                return;
            }
            behindWords[behindCount] = word;
            for (int s = 0; s < secret.n; s++) {
                rows[s * MOST_STATES + behindCount] = heardFrom(s, word);
            }
            behindCount++;
        }

        /** What the teacher answers to a word behind one that ends at STATE s of the SECRET. */
        private int heardFrom(int s, long word) {
            return secret.answerAt(secret.runFrom(s * COUNTS, word));
        }

        /** One pass is enough: a SIGN whose ROW is found stays so when AHEAD grows. */
        private void closeAhead() {
            for (int i = 0; i < aheadCount && i < MOST_STATES; i++) {
                for (int a = 0; a < secret.k; a++) {
                    int t = secret.leadOf(endOf[i], a);
                    if (t != NOWHERE && aheadLike(t) == NOWHERE && aheadCount < MOST_STATES) {
                        aheadWords[aheadCount] = 4 * aheadWords[i] + a;
                        endOf[aheadCount] = t;
                        aheadCount++;
                    }
                }
            }
        }

        /** The number of the word of AHEAD that has the ROW of STATE t of the SECRET. */
        private int aheadLike(int t) {
            for (int i = 0; i < aheadCount; i++) {
                if (haveSameRow(endOf[i], t)) {
                    return i;
                }
            }
            return NOWHERE;
        }

        private boolean haveSameRow(int s, int t) {
            for (int j = 0; j < behindCount; j++) {
                if (rows[s * MOST_STATES + j] != rows[t * MOST_STATES + j]) {
                    return false;
                }
            }
            return true;
        }

        private void makeGuess() {
            guessed.begin(PARTIAL, aheadCount, secret.k);
            for (int i = 0; i < aheadCount; i++) {
                guessed.answers[i] = secret.answers[endOf[i]];
                for (int a = 0; a < secret.k; a++) {
                    int t = secret.leadOf(endOf[i], a);
                    guessed.takes[i * SIGNS + a] = t == NOWHERE ? NOWHERE : aheadLike(t);
                }
            }
            guessed.settleKind();
            guessCount++;
        }

        /** LEARNS a word to which teacher and GUESS answer unlike. */
        void learnWord(long word) {
            int m = Words.lengthOf(word);
            int whole = valueAt(word, m, 0);
            int low = 0;
            int high = m;
            for (int turn = 0; turn < LONGEST && high > low + 1; turn++) {
                int half = (low + high) / 2;
                if (valueAt(word, m, half) == whole) {
                    low = half;
                } else {
                    high = half;
                }
            }
            addBehind(Words.lastSigns(word, m - high));
            closeAhead();
            makeGuess();
            toldWord = word;
        }

        /** V(i) of a word of m SIGNS. */
        private int valueAt(long word, int m, int i) {
            int spot = guessed.runFrom(START, word >> 2 * (m - i));
            if (spot == NOWHERE) {
                return NO_ANSWER;
            }
            return heardFrom(endOf[spot / COUNTS], Words.lastSigns(word, m - i));
        }

        int cellOf(int i, int a, int j) {
            if (i < 0 || i >= aheadCount || j < 0 || j >= behindCount || a < -1 || a >= secret.k) {
                return NONE;
            }
            int s = a == -1 ? endOf[i] : secret.leadOf(endOf[i], a);
            return s == NOWHERE ? NO_ANSWER : rows[s * MOST_STATES + j];
        }
    }

    /** KNOWN words, and the search for a machine that answers them. */
    private static final class Known {
        private static final int NO_CLASH = -1;

        int held;
        private final long[] words = new long[MOST_KNOWN];
        private final int[] answers = new int[MOST_KNOWN];
        private final int[] inOrder = new int[MOST_KNOWN];
        private final int[] lengths = new int[MOST_KNOWN];
        private final int[] ends = new int[MOST_KNOWN];
        private final int[] tops = new int[MOST_KNOWN];
        private final int[] table = new int[MOST_STATES * SIGNS];

        boolean holds(long word) {
            for (int i = 0; i < held; i++) {
                if (words[i] == word) {
                    return true;
                }
            }
            return false;
        }

        void keep(long word, int heard) {
            if (held < MOST_KNOWN) {
                words[held] = word;
                answers[held] = heard;
                lengths[held] = Words.lengthOf(word);
                held++;
            }
        }

        int firstUnfit(Machine by) {
            for (int i = 0; i < held; i++) {
                if (by.answerTo(words[i]) != answers[i]) {
                    return i;
                }
            }
            return NONE;
        }

        boolean makeFewest(Machine to) {
            int k = signsUsed();
            int unlike = unlikeAnswers();
            sortWords();
            for (int n = 1; n <= MOST_STATES && tablesAreFew(n, k); n++) {
                // words with unlike answers need a STATE each
                if (n >= unlike && findTable(n, k)) {
                    writeTable(to, n, k);
                    return true;
                }
            }
            return false;
        }

        private int signsUsed() {
            int used = 1;
            for (int i = 0; i < held; i++) {
                for (int behind = 0; behind < lengths[i]; behind++) {
                    used = Math.max(used, Words.signAt(words[i], behind) + 1);
                }
            }
            return used;
        }

        private int unlikeAnswers() {
            int seen = 0;
            for (int i = 0; i < held; i++) {
                seen |= 1 << answers[i];
            }
            return Integer.bitCount(seen);
        }

        /** Short words first: they clash by few TAKES, which rules out many TABLES at once. */
        private void sortWords() {
            for (int i = 0; i < held; i++) {
                int at = i;
                while (at > 0 && words[inOrder[at - 1]] > words[i]) {
                    inOrder[at] = inOrder[at - 1];
                    at--;
                }
                inOrder[at] = i;
            }
        }

        private static boolean tablesAreFew(int n, int k) {
            long many = 1;
            for (int i = 0; i < n * k && many <= MOST_TABLES; i++) {
                many *= n;
            }
            return many <= MOST_TABLES;
        }

        private boolean findTable(int n, int k) {
            Arrays.fill(table, 0);
            for (int tries = 0; tries <= MOST_TABLES; tries++) {
                int top = clash(k);
                if (top == NO_CLASH) {
                    return true;
                }
                if (!advanceTable(top, n, n * k)) {
                    return false;
                }
            }
            return false;
        }

        /**
         * The last TAKE that matters where two words with unlike answers end at one STATE: they
         * clash in each TABLE that is the same up to that TAKE.
         */
        private int clash(int k) {
            for (int i = 0; i < held; i++) {
                runTable(inOrder[i], k);
                for (int j = 0; j < i; j++) {
                    if (doClash(inOrder[i], inOrder[j])) {
                        return Math.max(tops[inOrder[i]], tops[inOrder[j]]);
                    }
                }
            }
            return NO_CLASH;
        }

        private boolean doClash(int i, int j) {
            return ends[i] == ends[j] && answers[i] != answers[j];
        }

        private void runTable(int i, int k) {
            int s = 0;
            int top = NO_CLASH;
            for (int behind = lengths[i] - 1; behind >= 0; behind--) {
                int at = s * k + Words.signAt(words[i], behind);
                top = Math.max(top, at);
                s = table[at];
            }
            ends[i] = s;
            tops[i] = top;
        }

        /** The first TABLE that is unlike this one up to a TAKE; false if there is none. */
        private boolean advanceTable(int top, int n, int cells) {
            for (int at = top + 1; at < cells; at++) {
                table[at] = 0;
            }
            for (int at = top; at >= 0; at--) {
                if (table[at] < n - 1) {
                    table[at]++;
                    return true;
                }
                table[at] = 0;
            }
            return false;
        }

        private void writeTable(Machine to, int n, int k) {
            to.begin(WHOLE, n, k);
            for (int s = 0; s < n; s++) {
                for (int a = 0; a < k; a++) {
                    to.takes[s * SIGNS + a] = table[s * k + a];
                }
            }
            for (int i = 0; i < held; i++) {
                to.answers[ends[i]] = answers[i];
            }
            to.settleKind();
        }
    }
}
