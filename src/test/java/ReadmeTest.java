import java.io.IOException;
import java.net.URL;
import java.net.URLClassLoader;
import java.nio.file.Files;
import java.nio.file.Path;
import java.util.ArrayList;
import java.util.Comparator;
import java.util.List;
import java.util.Set;
import java.util.TreeSet;
import java.util.concurrent.TimeUnit;
import java.util.regex.Matcher;
import java.util.regex.Pattern;
import java.util.stream.Collectors;
import java.util.stream.Stream;
import javax.tools.ToolProvider;

/**
 * Holds README.md to its word: its calls compile and answer as it says behind them, its commands
 * end well, and it tells of each test that there is and of no other.
 */
public final class ReadmeTest {
    private static final Path README = Path.of("README.md");
    private static final Path TESTS = Path.of("src/test/java");
    private static final Path SCRIPT = Path.of(".ci/run");
    private static final Pattern BLOCK = Pattern.compile("(?ms)^```(\\w*)\n(.*?)^```$");
    private static final Pattern CALL = Pattern.compile("(x\\.\\w+\\(.*\\));\\s*// (-?\\d+): .*");
    private static final Pattern TEST = Pattern.compile("\\b\\w+Test\\b");
    private static final String SHOWN = "ReadmeCalls";
    private static final int MOST_MINUTES = 5;

    private static int wrong;

    private static void rule(boolean holds, String fault) {
        if (!holds) {
            wrong++;
            System.out.println("ReadmeTest: " + fault);
        }
    }

    private static List<String> blocks(String readme, String language) {
        List<String> found = new ArrayList<>();
        Matcher block = BLOCK.matcher(readme);
        while (block.find()) {
            rule(Set.of("java", "sh").contains(block.group(1)), "a block is neither java nor sh: " + block.group(2));
            if (block.group(1).equals(language)) {
                found.add(block.group(2));
            }
        }
        rule(!found.isEmpty(), "README.md has no block of " + language);
        return found;
    }

    /** The calls as a class whose method counts the answers that are not as the comments say. */
    private static String program(List<String> blocks, Set<String> called) {
        StringBuilder code = new StringBuilder("public final class " + SHOWN + " {\n  private static int wrong;\n"
            + "  private static void due(String call, long got, long want) {\n"
            + "    if (got != want) { wrong++; System.out.println(\"ReadmeTest: \" + call + \" answered \" + got + \", README.md says \" + want); }\n"
            + "  }\n  public static int wrong() {\n");
        for (String line : String.join("", blocks).split("\n")) {
            Matcher call = CALL.matcher(line.trim());
            boolean asks = call.matches();
            rule(asks || !line.trim().startsWith("x."), "no answer stands behind this call: " + line);
            if (asks) {
                called.add(call.group(1).substring(2, call.group(1).indexOf('(')));
                code.append("    due(\"" + call.group(1) + "\", " + call.group(1) + ", " + call.group(2) + "L);\n");
            } else {
                code.append("    " + line + "\n");
            }
        }
        return code + "    return wrong;\n  }\n}\n";
    }

    private static void calls(String readme, Path room) throws IOException, ReflectiveOperationException {
        Set<String> called = new TreeSet<>();
        Path source = room.resolve(SHOWN + ".java");
        Files.writeString(source, program(blocks(readme, "java"), called));
        String places = System.getProperty("java.class.path");
        int failed = ToolProvider.getSystemJavaCompiler().run(null, null, null, "-cp", places, "-d", room.toString(), source.toString());
        rule(failed == 0, "the calls of README.md do not compile");
        if (failed == 0) {
            try (URLClassLoader loader = new URLClassLoader(new URL[] {room.toUri().toURL()})) {
                wrong += (int) loader.loadClass(SHOWN).getMethod("wrong").invoke(null);
            }
        }
        for (String name : RandomRunsTest.NAMES) {
            rule(called.contains(name), "README.md shows no call of " + name);
        }
        rule(called.contains("status"), "README.md shows no call of status");
    }

    /** The commands of a block one behind the other, as if typed at the root of the project. */
    private static void commands(String block, Path room) throws IOException, InterruptedException {
        Path said = room.resolve("said.txt");
        ProcessBuilder shell = new ProcessBuilder("bash", "-e", "-c", block).redirectErrorStream(true).redirectOutput(said.toFile());
        shell.environment().put("TMPDIR", room.toString());
        Process running = shell.start();
        boolean ended = running.waitFor(MOST_MINUTES, TimeUnit.MINUTES);
        boolean well = ended && running.exitValue() == 0;
        running.destroy();
        rule(well, "these commands do not end well:\n" + block + Files.readString(said));
    }

    private static void commands(String readme, Path room, String script) throws IOException, InterruptedException {
        boolean all = false;
        for (String block : blocks(readme, "sh")) {
            // the script runs this test, so that it is not run again from here
            if (block.trim().equals(script)) {
                all = true;
            } else {
                commands(block, room);
            }
        }
        rule(all, "README.md does not say that " + script + " runs the tests");
        rule(Files.isExecutable(SCRIPT), script + " can't be run");
    }

    private static void tests(String readme) throws IOException {
        Set<String> told = new TreeSet<>();
        Matcher name = TEST.matcher(readme);
        while (name.find()) {
            told.add(name.group());
        }
        Set<String> there;
        try (Stream<Path> files = Files.list(TESTS)) {
            there = files.map(f -> f.getFileName().toString()).filter(f -> f.endsWith("Test.java"))
                .map(f -> f.replace(".java", "")).collect(Collectors.toCollection(TreeSet::new));
        }
        for (String one : there) {
            rule(readme.contains("\n| " + one + " |"), "the table of README.md does not tell of " + one);
        }
        for (String one : told) {
            rule(there.contains(one), "README.md tells of a test that is not there: " + one);
        }
    }

    private static void clear(Path room) throws IOException {
        try (Stream<Path> all = Files.walk(room)) {
            for (Path one : all.sorted(Comparator.reverseOrder()).collect(Collectors.toList())) {
                Files.delete(one);
            }
        }
    }

    public static void main(String[] args) throws IOException, InterruptedException, ReflectiveOperationException {
        String readme = Files.readString(README);
        Path room = Files.createTempDirectory("readme");
        calls(readme, room);
        commands(readme, room, SCRIPT.toString());
        tests(readme);
        clear(room);
        System.out.println("ReadmeTest: " + (wrong == 0 ? "README.md holds" : wrong + " faults"));
        if (wrong != 0) {
            System.exit(1);
        }
    }
}
