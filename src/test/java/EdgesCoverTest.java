import java.io.IOException;
import java.lang.reflect.Method;
import java.nio.file.Files;
import java.nio.file.Path;
import java.util.ArrayList;
import java.util.LinkedHashMap;
import java.util.List;
import java.util.Map;

/**
 * Holds the tests of boundary cases against the document: each text that a test quotes stands in the
 * promise that the test is named by, or in the terms; and each word of the promises and of the terms
 * is quoted by some test. What it finds when the document changes is what has to be read again.
 */
public final class EdgesCoverTest {
    private static final Path DOCUMENT = Path.of("../shared/DOC.md");
    private static final String TERMS = "terms";
    private static final List<Class<? extends Edges>> TESTS = List.of(EdgesTermsTest.class, EdgesLayingTest.class, EdgesAskingTest.class,
        EdgesMakingTest.class, EdgesTeachingTest.class, EdgesPupilTest.class, EdgesKnownTest.class, EdgesFailureTest.class);
    private static final int PROMISES = 42;

    private static final Map<String, String> sections = new LinkedHashMap<>();
    private static final Map<String, boolean[]> quoted = new LinkedHashMap<>();
    private static int tests;
    private static int wrong;

    private static void tell(String fault) {
        wrong++;
        System.out.println("EdgesCoverTest: " + fault);
    }

    private static void read() throws IOException {
        String document = Files.readString(DOCUMENT);
        String object = between(document, "An object is used for", ";");
        StringBuilder terms = new StringBuilder(object);
        for (String line : between(document, "\n## Terms\n", "\n## Promise 1:").split("\n")) {
            if (!line.startsWith("Ahead of the calls")) {
                terms.append(' ').append(line);
            }
        }
        put(TERMS, terms.toString().replaceFirst("WORDS\\. ", "").replaceFirst("The constants: ", ""));
        for (int p = 1; p <= PROMISES; p++) {
            String all = between(document + "\n## ", "\n## Promise " + p + ": ", "\n## ");
            put(name(p), all.substring(all.indexOf("`: ") + 3));
        }
    }

    private static String name(int promise) {
        return "p" + (promise < 10 ? "0" : "") + promise;
    }

    private static String between(String text, String from, String to) {
        int begin = text.indexOf(from);
        return text.substring(begin, text.indexOf(to, begin + from.length())).replaceFirst("^\n## Terms\n", "");
    }

    private static void put(String section, String text) {
        sections.put(section, text.replaceAll("\\s+", " ").trim());
        quoted.put(section, new boolean[sections.get(section).length()]);
    }

    private static boolean mark(String section, String quote) {
        String text = sections.get(section);
        int at = text.indexOf(quote);
        boolean found = at >= 0;
        while (at >= 0) {
            java.util.Arrays.fill(quoted.get(section), at, at + quote.length(), true);
            at = text.indexOf(quote, at + 1);
        }
        return found;
    }

    private static void look(Class<? extends Edges> from, Method test) {
        tests++;
        String section = test.getName().startsWith("t_") ? TERMS : test.getName().substring(0, 3);
        if (!sections.containsKey(section)) {
            tell(from.getName() + ", " + test.getName() + " is named by no promise");
            return;
        }
        for (String quote : test.getAnnotation(Says.class).value()) {
            boolean own = mark(section, quote);
            boolean ofTerms = mark(TERMS, quote);
            if (!own && !ofTerms) {
                tell(from.getName() + ", " + test.getName() + " quotes what the document does not say there: " + quote);
            }
        }
    }

    private static List<String> unquoted(String section) {
        List<String> left = new ArrayList<>();
        StringBuilder run = new StringBuilder();
        String text = sections.get(section) + " ";
        for (int i = 0; i < text.length(); i++) {
            boolean free = i < quoted.get(section).length && !quoted.get(section)[i];
            if (free) {
                run.append(text.charAt(i));
            }
            if (!free && run.length() > 0) {
                if (run.toString().matches(".*[A-Za-z0-9].*")) {
                    left.add(run.toString().trim());
                }
                run.setLength(0);
            }
        }
        return left;
    }

    public static void main(String[] args) throws IOException {
        if (!Files.exists(DOCUMENT)) {
            System.out.println("EdgesCoverTest: there is no " + DOCUMENT + " to hold the tests against");
            return;
        }
        read();
        for (Class<? extends Edges> some : TESTS) {
            for (Method test : Edges.testsOf(some)) {
                look(some, test);
            }
        }
        for (String section : sections.keySet()) {
            for (String left : unquoted(section)) {
                tell("no test quotes of " + section + ": " + left);
            }
        }
        System.out.println("EdgesCoverTest: " + tests + " tests are held against the document" + (wrong == 0 ? ", which they quote as it is and whole" : ", " + wrong + " faults"));
        if (wrong != 0) {
            System.exit(1);
        }
    }
}
