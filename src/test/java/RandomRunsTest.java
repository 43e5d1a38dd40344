import java.util.ArrayList;
import java.util.List;
import java.util.Random;

/** Long runs of drawn calls (with fixed seeds), each answer and each status compared with NaiveSchool. */
public final class RandomRunsTest {
    static final String[] NAMES = {
        "machine", "row", "cut", "take", "say", "act", "copy", "draw", "lift", "kind", "size", "leads", "what",
        "says", "answer", "count", "word", "place", "differ", "least", "join", "suite", "passes", "teacher",
        "forget", "learn", "exam", "tell", "guess", "ahead", "behind", "cell", "told", "guesses", "know", "unknow",
        "fewest", "fits", "blame", "raise"};
    private static final int[] WEIGHTS = {
        40, 20, 6, 60, 30, 30, 15, 30, 3, 4, 4, 8, 8,
        6, 25, 6, 6, 6, 25, 25, 40, 8, 8, 20,
        15, 15, 40, 15, 10, 5, 5, 10, 3, 3, 40, 2,
        6, 8, 4, 4};

    private final Random random;
    private final WordSchool school = new WordSchool();
    private final NaiveSchool naive = new NaiveSchool();
    private final List<String> calls = new ArrayList<>();
    private final int busy;
    private final int widest;

    private RandomRunsTest(long seed) {
        random = new Random(seed);
        busy = 2 + random.nextInt(6);
        widest = 1 + random.nextInt(4);
    }

    private int below(int n) {
        return random.nextInt(n);
    }

    private int wild() {
        int[] wild = {-1, -2, 16, 15, 14, 5, 100, Integer.MAX_VALUE, Integer.MIN_VALUE, 31, 30, 8};
        return wild[below(wild.length)];
    }

    private int some(int n) {
        return below(25) == 0 ? wild() : below(n);
    }

    private int place() {
        return some(busy);
    }

    private int state() {
        return below(3) == 0 ? some(14) : some(4);
    }

    private int sign() {
        return some(widest);
    }

    private long word() {
        int choice = below(30);
        if (choice == 0) {
            long[] wild = {0, -1, 2, 3, 8, 12, Long.MAX_VALUE, Long.MIN_VALUE, 1L << 62, 1L << 61, (1L << 61) - 1, 1L << 60};
            return wild[below(wild.length)];
        }
        int m = choice < 4 ? below(31) : below(7);
        long w = 1;
        for (int i = 0; i < m; i++) {
            w = 4 * w + (below(20) == 0 ? below(4) : below(widest));
        }
        return w;
    }

    private long[] args(int op) {
        switch (NAMES[op]) {
            case "machine": return new long[] {place(), some(4), below(3) == 0 ? some(15) : 1 + some(5), 1 + some(widest)};
            case "row": return new long[] {place(), state(), below(4) == 0 ? sign() : widest};
            case "cut": return new long[] {place(), state()};
            case "take": return new long[] {place(), state(), sign(), below(8) == 0 ? -1 : state()};
            case "say": return new long[] {place(), state(), below(3) == 0 ? some(8) : some(2)};
            case "act": return new long[] {place(), state(), sign(), some(4)};
            case "copy": return new long[] {place(), state(), some(3), state(), some(4)};
            case "draw": return new long[] {place(), below(5) == 0 ? random.nextInt() : below(1000)};
            case "size": return new long[] {place(), some(3)};
            case "leads": case "what": return new long[] {place(), state(), sign()};
            case "says": return new long[] {place(), state()};
            case "answer": case "place": case "forget": case "know": return new long[] {place(), word()};
            case "count": return new long[] {place(), below(2) == 0 ? some(2) : some(9), below(4) == 0 ? some(31) : some(6)};
            case "word": return new long[] {place(), below(2) == 0 ? some(2) : some(9), below(4) == 0 ? random.nextLong() >>> below(60) : some(40)};
            case "differ": case "least": return new long[] {place(), place()};
            case "join": return new long[] {some(6), place(), place(), place()};
            case "suite": return new long[] {place(), some(3)};
            case "passes": return new long[] {place(), place(), some(3)};
            case "teacher": return new long[] {place(), some(3), place(), below(3) == 0 ? some(6) : some(31)};
            case "tell": return new long[] {word()};
            case "ahead": case "behind": return new long[] {some(6)};
            case "cell": return new long[] {some(6), below(4) - 1, some(4)};
            case "blame": return new long[] {place(), random.nextInt()};
            case "exam": case "told": case "guesses": case "unknow": return new long[0];
            default: return new long[] {place()};
        }
    }

    private static int i(long x) {
        return (int) x;
    }

    static long ask(WordSchool x, String name, long[] a) {
        switch (name) {
            case "machine": return x.machine(i(a[0]), i(a[1]), i(a[2]), i(a[3]));
            case "row": return x.row(i(a[0]), i(a[1]), i(a[2]));
            case "cut": return x.cut(i(a[0]), i(a[1]));
            case "take": return x.take(i(a[0]), i(a[1]), i(a[2]), i(a[3]));
            case "say": return x.say(i(a[0]), i(a[1]), i(a[2]));
            case "act": return x.act(i(a[0]), i(a[1]), i(a[2]), i(a[3]));
            case "copy": return x.copy(i(a[0]), i(a[1]), i(a[2]), i(a[3]), i(a[4]));
            case "draw": return x.draw(i(a[0]), i(a[1]));
            case "lift": return x.lift(i(a[0]));
            case "kind": return x.kind(i(a[0]));
            case "size": return x.size(i(a[0]), i(a[1]));
            case "leads": return x.leads(i(a[0]), i(a[1]), i(a[2]));
            case "what": return x.what(i(a[0]), i(a[1]), i(a[2]));
            case "says": return x.says(i(a[0]), i(a[1]));
            case "answer": return x.answer(i(a[0]), a[1]);
            case "count": return x.count(i(a[0]), i(a[1]), i(a[2]));
            case "word": return x.word(i(a[0]), i(a[1]), a[2]);
            case "place": return x.place(i(a[0]), a[1]);
            case "differ": return x.differ(i(a[0]), i(a[1]));
            case "least": return x.least(i(a[0]), i(a[1]));
            case "join": return x.join(i(a[0]), i(a[1]), i(a[2]), i(a[3]));
            case "suite": return x.suite(i(a[0]), i(a[1]));
            case "passes": return x.passes(i(a[0]), i(a[1]), i(a[2]));
            case "teacher": return x.teacher(i(a[0]), i(a[1]), i(a[2]), i(a[3]));
            case "forget": return x.forget(i(a[0]), a[1]);
            case "learn": return x.learn(i(a[0]));
            case "exam": return x.exam();
            case "tell": return x.tell(a[0]);
            case "guess": return x.guess(i(a[0]));
            case "ahead": return x.ahead(i(a[0]));
            case "behind": return x.behind(i(a[0]));
            case "cell": return x.cell(i(a[0]), i(a[1]), i(a[2]));
            case "told": return x.told();
            case "guesses": return x.guesses();
            case "know": return x.know(i(a[0]), a[1]);
            case "unknow": return x.unknow();
            case "fewest": return x.fewest(i(a[0]));
            case "fits": return x.fits(i(a[0]));
            case "blame": return x.blame(i(a[0]), i(a[1]));
            default: return x.raise(i(a[0]));
        }
    }

    private static long ask(NaiveSchool x, String name, long[] a) {
        switch (name) {
            case "machine": return x.machine(i(a[0]), i(a[1]), i(a[2]), i(a[3]));
            case "row": return x.row(i(a[0]), i(a[1]), i(a[2]));
            case "cut": return x.cut(i(a[0]), i(a[1]));
            case "take": return x.take(i(a[0]), i(a[1]), i(a[2]), i(a[3]));
            case "say": return x.say(i(a[0]), i(a[1]), i(a[2]));
            case "act": return x.act(i(a[0]), i(a[1]), i(a[2]), i(a[3]));
            case "copy": return x.copy(i(a[0]), i(a[1]), i(a[2]), i(a[3]), i(a[4]));
            case "draw": return x.draw(i(a[0]), i(a[1]));
            case "lift": return x.lift(i(a[0]));
            case "kind": return x.kind(i(a[0]));
            case "size": return x.size(i(a[0]), i(a[1]));
            case "leads": return x.leads(i(a[0]), i(a[1]), i(a[2]));
            case "what": return x.what(i(a[0]), i(a[1]), i(a[2]));
            case "says": return x.says(i(a[0]), i(a[1]));
            case "answer": return x.answer(i(a[0]), a[1]);
            case "count": return x.count(i(a[0]), i(a[1]), i(a[2]));
            case "word": return x.word(i(a[0]), i(a[1]), a[2]);
            case "place": return x.placeOf(i(a[0]), a[1]);
            case "differ": return x.differ(i(a[0]), i(a[1]));
            case "least": return x.least(i(a[0]), i(a[1]));
            case "join": return x.join(i(a[0]), i(a[1]), i(a[2]), i(a[3]));
            case "suite": return x.suite(i(a[0]), i(a[1]));
            case "passes": return x.passes(i(a[0]), i(a[1]), i(a[2]));
            case "teacher": return x.teacher(i(a[0]), i(a[1]), i(a[2]), i(a[3]));
            case "forget": return x.forget(i(a[0]), a[1]);
            case "learn": return x.learn(i(a[0]));
            case "exam": return x.exam();
            case "tell": return x.tell(a[0]);
            case "guess": return x.guess(i(a[0]));
            case "ahead": return x.ahead(i(a[0]));
            case "behind": return x.behind(i(a[0]));
            case "cell": return x.cell(i(a[0]), i(a[1]), i(a[2]));
            case "told": return x.told;
            case "guesses": return x.guesses;
            case "know": return x.know(i(a[0]), a[1]);
            case "unknow": return x.unknow();
            case "fewest": return x.fewest(i(a[0]));
            case "fits": return x.fits(i(a[0]));
            case "blame": return x.blame(i(a[0]), i(a[1]));
            default: return x.raise(i(a[0]));
        }
    }

    private boolean compare(String name, long... args) {
        long got = ask(school, name, args);
        long want = ask(naive, name, args);
        StringBuilder call = new StringBuilder(name).append('(');
        for (int j = 0; j < args.length; j++) {
            call.append(j == 0 ? "" : ", ").append(args[j]);
        }
        calls.add(call.append(") = ").append(want).toString());
        if (got == want && school.status() == naive.finding) {
            return true;
        }
        System.out.println(String.join("\n", calls.subList(Math.max(0, calls.size() - 60), calls.size())));
        System.out.println("answered " + got + " with status " + school.status() + ", due is " + want + " with " + naive.finding);
        return false;
    }

    /** All that can be asked of what lies at a place. */
    private boolean compareAll(int p) {
        boolean same = compare("kind", p) && compare("size", p, 0) && compare("size", p, 1);
        for (int s = 0; s < 14 && same; s++) {
            same = compare("says", p, s);
            for (int a = 0; a < 4 && same; a++) {
                same = compare("leads", p, s, a) && compare("what", p, s, a);
            }
        }
        return same;
    }

    private boolean comparePupil() {
        boolean same = compare("told") && compare("guesses");
        for (int x = 0; x < 15 && same; x++) {
            same = compare("ahead", x) && compare("behind", x);
            for (int a = -1; a < 4 && same; a++) {
                for (int j = 0; j < 15 && same; j++) {
                    same = compare("cell", x, a, j);
                }
            }
        }
        return same;
    }

    private int drawOp() {
        int all = 0;
        for (int w : WEIGHTS) {
            all += w;
        }
        int x = below(all);
        int op = 0;
        while (x >= WEIGHTS[op]) {
            x -= WEIGHTS[op];
            op++;
        }
        return op;
    }

    // ---- stories: runs of calls that make machines worth asking about

    private boolean lay(int p, int kind, int n, int k, boolean twoAnswers) {
        boolean same = compare("machine", p, kind, n, k);
        int seed = random.nextInt();
        if (kind >= 2 && below(3) == 0) {
            same = same && compare("row", p, below(n), below(k + 1));
        }
        if (kind >= 2 && below(6) == 0) {
            same = same && compare("cut", p, below(n));
        }
        same = same && compare("draw", p, seed);
        for (int s = 0; s < n && same; s++) {
            if (twoAnswers) {
                same = compare("say", p, s, below(3) == 0 ? 1 : 0);
            }
            for (int a = 0; a < k && same; a++) {
                if (kind >= 2 && below(6) == 0) {
                    same = compare("take", p, s, a, -1);
                }
                if (kind == 3 && below(4) != 0) {
                    same = compare("act", p, s, a, below(3) == 0 ? below(4) : 0);
                }
            }
        }
        return same && compareAll(p);
    }

    private boolean joinStory() {
        int most = 1 + below(6);
        boolean same = lay(0, below(4), 1 + below(most), 1 + below(3), true) && lay(1, below(4), 1 + below(most), 1 + below(3), true);
        for (int how = 0; how < 6 && same; how++) {
            same = compare("join", how, 0, 1, 2 + how) && compareAll(2 + how) && compareBelongs(how);
        }
        for (int c = 0; c < 6 && same; c++) {
            same = compare("join", below(6), below(8), below(8), below(8));
        }
        return same && compare("differ", below(8), below(8)) && compare("differ", below(8), below(8));
    }

    /** What join made, asked about all short words, against the definition of what belongs. */
    private boolean compareBelongs(int how) {
        NaiveSchool.Mach a = naive.at(0);
        NaiveSchool.Mach b = naive.at(1);
        if (school.status() != 0) {
            return true;
        }
        int k = school.size(2 + how, 1);
        for (long w = 1; w < 2048; w++) {
            if (!NaiveSchool.isWord(w)) {
                continue;
            }
            String text = NaiveSchool.text(w);
            boolean inside = text.chars().allMatch(ch -> ch - '0' < k);
            int want = !inside ? 8 : NaiveSchool.belongs(how, a, b, text) ? 1 : 0;
            if (school.answer(2 + how, w) != want) {
                System.out.println("join " + how + " answers " + w + " wrongly, due is " + want);
                return false;
            }
        }
        return true;
    }

    private boolean pupilStory() {
        int kind = below(4);
        boolean same = lay(0, kind, 2 + below(13), 1 + below(4), below(2) == 0)
            && compare("teacher", 1, below(2), 0, below(3) == 0 ? below(5) : 30) && compare("learn", 1);
        if (below(2) == 0) {
            same = same && compare("lift", 1);
        }
        for (int c = 0; c < 20 && same; c++) {
            same = (below(3) == 0 ? compare("tell", word()) : compare("exam")) && compare("told") && compare("guess", 2);
        }
        return same && comparePupil() && compareAll(2) && compare("least", 0, 3) && compareAll(3) && compare("differ", 2, 3);
    }

    private boolean suiteStory() {
        int kind = below(4);
        int n = 1 + below(7);
        int k = 1 + below(3);
        boolean same = lay(0, kind, n, k, below(2) == 0) && compare("least", 0, 1) && compare("least", 0, 2);
        for (int c = 0; c < 3 && same && school.status() == 0; c++) {
            same = compare("take", 2, below(n), below(k), below(n)) && compare("passes", 0, 2, below(3)) && compare("passes", 2, 0, below(3));
        }
        same = same && lay(3, below(4), 1 + below(14), 1 + below(4), below(2) == 0) && compare("passes", 0, 3, below(3));
        for (int h = 0; h < 3 && same; h++) {
            same = compare("suite", 0, h) && compare("suite", 2, h) && compare("passes", 1, 0, h) && compare("passes", 0, 1, h);
        }
        return same && compare("differ", 0, 2) && compare("differ", 0, 3);
    }

    private boolean knownStory() {
        boolean same = lay(0, below(4), 1 + below(6), 1 + below(4), below(3) != 0)
            && compare("teacher", 1, 2, 0, below(31)) && compare("unknow");
        int k = 1 + below(4);
        for (int c = 0; c < 12 && same; c++) {
            long w = 1;
            int m = below(4) == 0 ? below(31) : below(5);
            for (int x = 0; x < m; x++) {
                w = 4 * w + below(k);
            }
            same = (below(5) == 0 ? compare("forget", 1, w) : compare("know", 1, w)) && compare("know", 1, word());
            if (below(3) == 0) {
                same = same && compare("fewest", 2) && compareAll(2) && compare("fits", 2) && compare("fits", 0);
            }
        }
        return same;
    }

    private boolean countStory() {
        boolean same = lay(0, below(4), 1 + below(14), 1 + below(4), below(2) == 0);
        for (int c = 0; c < 10 && same; c++) {
            same = compare("count", 0, below(2), below(31)) && compare("word", 0, below(8), below(100))
                && compare("word", 0, below(2), random.nextLong() >>> (1 + below(60))) && compare("place", 0, word());
        }
        return same;
    }

    private boolean story() {
        switch (below(5)) {
            case 0: return joinStory();
            case 1: return pupilStory();
            case 2: return suiteStory();
            case 3: return knownStory();
            default: return countStory();
        }
    }

    private boolean tell() {
        for (int c = 0; c < 4; c++) {
            if (!story()) {
                return false;
            }
        }
        return true;
    }

    private boolean run() {
        for (int c = 0; c < 512; c++) {
            int op = drawOp();
            long[] args = args(op);
            if (!compare(NAMES[op], args)) {
                return false;
            }
        }
        boolean same = comparePupil();
        for (int p = 0; p < 16 && same; p++) {
            same = compareAll(p);
        }
        return same;
    }

    public static void main(String[] args) {
        int runs = args.length > 0 ? Integer.parseInt(args[0]) : 600;
        long from = args.length > 1 ? Long.parseLong(args[1]) : 1;
        int wrong = 0;
        for (long seed = from; seed < from + runs && wrong < 3; seed++) {
            if (!new RandomRunsTest(seed).run() || !new RandomRunsTest(seed).tell()) {
                System.out.println("that was the run of seed " + seed);
                wrong++;
            }
        }
        System.out.println(wrong == 0 ? "RandomRunsTest: " + runs + " runs are as due" : "RandomRunsTest: runs are not as due");
        if (wrong != 0) {
            System.exit(1);
        }
    }
}
