import java.io.IOException;
import java.lang.reflect.Field;
import java.lang.reflect.Method;
import java.lang.reflect.Modifier;
import java.nio.file.Files;
import java.nio.file.Path;
import java.util.ArrayList;
import java.util.List;
import java.util.Set;
import java.util.TreeSet;
import java.util.regex.Pattern;

/** What of LANGUAGE.md can be seen from outside: the face, the words used, and the sizes. */
public final class RulesTest {
    private static final Path SOURCE = Path.of("src/main/java/WordSchool.java");
    private static final Set<String> FACE = new TreeSet<>(List.of(
        "int machine(int, int, int, int)", "int row(int, int, int)", "int cut(int, int)", "int take(int, int, int, int)",
        "int say(int, int, int)", "int act(int, int, int, int)", "int copy(int, int, int, int, int)", "int draw(int, int)",
        "int lift(int)", "int kind(int)", "int size(int, int)", "int leads(int, int, int)", "int what(int, int, int)",
        "int says(int, int)", "int answer(int, long)", "long count(int, int, int)", "long word(int, int, long)",
        "long place(int, long)", "long differ(int, int)", "int least(int, int)", "int join(int, int, int, int)",
        "int suite(int, int)", "long passes(int, int, int)", "int teacher(int, int, int, int)", "int forget(int, long)",
        "int learn(int)", "int exam()", "int tell(long)", "int guess(int)", "long ahead(int)", "long behind(int)",
        "int cell(int, int, int)", "long told()", "int guesses()", "int know(int, long)", "int unknow()",
        "int fewest(int)", "int fits(int)", "int blame(int, int)", "int raise(int)", "int status()"));
    private static final String[] NEVER = {
        "\\bthrow\\b", "\\btry\\b", "\\bcatch\\b", "\\bsynchronized\\b", "\\bassert\\b", "->", "::", "\\bException\\b",
        "Exact\\(", "\\bstatic\\s*\\{", "\\binstanceof\\b", "\\bhashCode\\b", "\\btoString\\b", "\\bpackage\\b", "@",
        "\\bMath\\.random\\b", "\\bThread\\b", "\\bdouble\\b", "\\bfloat\\b", "\\bString\\b", "System\\.(?!arraycopy)"};

    private static int wrong;

    private static void rule(boolean holds, String what) {
        if (!holds) {
            wrong++;
            System.out.println("RulesTest: " + what);
        }
    }

    private static String shape(Method m) {
        List<String> types = new ArrayList<>();
        for (Class<?> type : m.getParameterTypes()) {
            types.add(type.getName());
        }
        return m.getReturnType().getName() + " " + m.getName() + "(" + String.join(", ", types) + ")";
    }

    private static void face() throws ReflectiveOperationException {
        Set<String> found = new TreeSet<>();
        for (Method m : WordSchool.class.getDeclaredMethods()) {
            if (Modifier.isPublic(m.getModifiers())) {
                found.add(shape(m));
            } else {
                rule(Modifier.isPrivate(m.getModifiers()), "rule 1: " + m.getName() + " is neither public nor private");
            }
        }
        rule(found.equals(FACE), "rule 1: the face is " + found);
        rule(Modifier.isFinal(WordSchool.class.getModifiers()), "rule 1: the class is not final");
        rule(WordSchool.class.getConstructors().length == 1, "rule 1: one public constructor");
        rule(WordSchool.class.getDeclaredConstructors().length == 1, "rule 1: one constructor");
        rule(WordSchool.class.getFields().length == 1 && WordSchool.class.getField("NONE").getInt(null) == -1, "rule 1: NONE is the one constant");
    }

    private static Set<String> faceNames() {
        Set<String> names = new TreeSet<>();
        for (String one : FACE) {
            names.add(one.substring(one.indexOf(' ') + 1, one.indexOf('(')));
        }
        return names;
    }

    private static void classes() {
        List<Class<?>> all = new ArrayList<>(List.of(WordSchool.class.getDeclaredClasses()));
        for (Class<?> c : all) {
            rule(Modifier.isStatic(c.getModifiers()), "rule 2: " + c.getName() + " is not static");
            for (Method m : c.getDeclaredMethods()) {
                rule(!faceNames().contains(m.getName()), "rule 1: " + c.getName() + " has a method " + m.getName());
            }
        }
        all.add(WordSchool.class);
        rule(all.size() <= 12, "rule 11: " + all.size() + " classes");
        for (Class<?> c : all) {
            int fields = 0;
            for (Field f : c.getDeclaredFields()) {
                boolean fixed = Modifier.isStatic(f.getModifiers());
                fields += fixed ? 0 : 1;
                rule(!fixed || Modifier.isFinal(f.getModifiers()), "rule 5: " + f.getName() + " is not final");
                rule(c != WordSchool.class || f.getName().equals("NONE") || Modifier.isPrivate(f.getModifiers()), "rule 1: " + f.getName() + " is not private");
            }
            rule(fields <= 20, "rule 11: " + c.getName() + " has " + fields + " fields");
            for (Method m : c.getDeclaredMethods()) {
                rule(m.getParameterCount() <= 7, "rule 11: " + m.getName() + " takes too many");
            }
        }
    }

    private static void source() throws IOException {
        String code = Files.readString(SOURCE).replaceAll("(?s)/\\*.*?\\*/", "").replaceAll("//.*", "");
        for (String never : NEVER) {
            rule(!Pattern.compile(never).matcher(code).find(), "rules 3 to 6: the source has " + never);
        }
        for (String line : code.split("\n")) {
            rule(!line.startsWith("import") || line.equals("import java.util.Arrays;"), "rule 4: " + line);
        }
        rule(!Pattern.compile("Arrays\\.(?!fill)").matcher(code).find(), "rule 4: more of Arrays than fill");
        int length = 0;
        for (String line : code.split("\n")) {
            boolean begins = line.matches(" {4}( {4})?[a-z].*\\) \\{");
            boolean ends = line.matches(" {4}( {4})?\\}");
            length = begins ? 1 : length + 1;
            rule(!ends || length <= 60, "rule 11: a method of " + length + " lines");
            length = ends ? 0 : length;
        }
    }

    public static void main(String[] args) throws IOException, ReflectiveOperationException {
        face();
        classes();
        source();
        System.out.println("RulesTest: " + (wrong == 0 ? "all rules that are looked at are kept" : wrong + " rules are broken"));
        if (wrong != 0) {
            System.exit(1);
        }
    }
}
