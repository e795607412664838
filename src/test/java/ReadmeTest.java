import java.io.IOException;
import java.io.InputStream;
import java.lang.reflect.Method;
import java.lang.reflect.Modifier;
import java.nio.file.Files;
import java.nio.file.Path;
import java.util.ArrayList;
import java.util.Arrays;
import java.util.List;
import java.util.Set;
import java.util.TreeSet;
import java.util.regex.Matcher;
import java.util.regex.Pattern;
import java.util.stream.Stream;

/** What README.md shows: its program answers as it says, its commands run, its tests are there. */
public final class ReadmeTest {
    private static final Path TESTS = Path.of("src/test/java");
    /** A call of README.md's program, with the answer that it says: a number or a constant's name. */
    private static final Pattern SHOWN = Pattern.compile("(x\\.(\\w+)\\([^;]*\\)); +// (-?\\d+|[A-Z]+): .+");
    /** A line of README.md's program that leads to calls: what it answers isn't shown. */
    private static final Pattern LEADS = Pattern.compile("SlackArms x = .*;|for \\(.*\\) x\\.feed\\(c\\);|");

    private static Path build;

    public static void main(String[] args) throws Exception {
        String page = Files.readString(Path.of("README.md"));
        build = Files.createTempDirectory("readme");
        try {
            program(String.join("", blocks(page, "java")));
            commands(String.join("", blocks(page, "sh")));
        } finally {
            remove(build);
        }
        listed(page);
        Checks.finish();
    }

    private static List<String> blocks(String page, String language) {
        List<String> found = new ArrayList<>();
        Matcher m = Pattern.compile("(?s)```" + language + "\n(.*?)```").matcher(page);
        while (m.find()) {
            found.add(m.group(1));
        }
        Checks.holds("README.md shows " + language, !found.isEmpty());
        return found;
    }

    /** The program is compiled as it stands, each call that shows an answer held against it. */
    private static void program(String shown) throws Exception {
        Set<String> called = new TreeSet<>();
        StringBuilder code = new StringBuilder("public final class Shown {\n");
        code.append("    static final int BAD = -1, STATE = -2, FULL = -3, NONE = -4;\n");
        code.append("    public static void main(String[] args) {\n");
        for (String line : shown.split("\n")) {
            Matcher m = SHOWN.matcher(line);
            if (m.matches()) {
                called.add(m.group(2));
                String due = "Checks.due(\"README.md: %s\", %s, %s);%n";
                code.append(String.format(due, m.group(1), m.group(1), m.group(3)));
            } else {
                Checks.holds("README.md shows an answer: " + line, LEADS.matcher(line).matches());
                code.append(line).append('\n');
            }
        }
        code.append("        Checks.finish();\n    }\n}\n");
        Path file = build.resolve("Shown.java");
        Files.writeString(file, code);
        run("javac", "--release", "17", "-sourcepath", TESTS.toString(), "-d", build.toString(),
                "src/main/java/SlackArms.java", file.toString());
        run("java", "-cp", build.toString(), "Shown");
        for (Method m : SlackArms.class.getDeclaredMethods()) {
            boolean isFace = Modifier.isPublic(m.getModifiers());
            Checks.holds("README.md shows " + m.getName(), !isFace || called.contains(m.getName()));
        }
    }

    /** All but .ci/run, which runs this test: what it builds is put where nothing is left of it. */
    private static void commands(String shown) throws Exception {
        List<String> lines = Arrays.asList(shown.split("\n"));
        Checks.holds("README.md names .ci/run", lines.contains(".ci/run"));
        Checks.holds(".ci/run can be run", Files.isExecutable(Path.of(".ci/run")));
        for (String line : lines) {
            if (!line.equals(".ci/run")) {
                run(line.replace(" build ", " " + build.resolve("one") + " ").split(" "));
            }
        }
    }

    private static void run(String... command) throws Exception {
        Process process = new ProcessBuilder(command).redirectErrorStream(true).start();
        String said;
        try (InputStream out = process.getInputStream()) {
            said = new String(out.readAllBytes());
        }
        int code = process.waitFor();
        if (code != 0) {
            System.out.print(said);
        }
        Checks.due("README.md: " + String.join(" ", command), code, 0);
    }

    /** Each name or pattern of a list's item is that of a test, and each test is in the list. */
    private static void listed(String page) throws IOException {
        Set<String> tests = new TreeSet<>();
        try (Stream<Path> files = Files.list(TESTS)) {
            files.map(file -> file.getFileName().toString()).filter(name -> name.endsWith("Test.java")).forEach(tests::add);
        }
        Set<String> left = new TreeSet<>(tests);
        Matcher item = Pattern.compile("(?m)^- `([\\w*]+\\.java)`:").matcher(page);
        while (item.find()) {
            String pattern = item.group(1).replace(".", "\\.").replace("*", "\\w+");
            Checks.holds("README.md names a test: " + item.group(1), tests.stream().anyMatch(t -> t.matches(pattern)));
            left.removeIf(test -> test.matches(pattern));
        }
        Checks.holds("README.md names each test, but not " + left, left.isEmpty());
    }

    private static void remove(Path folder) throws IOException {
        try (Stream<Path> files = Files.walk(folder)) {
            for (Path file : files.sorted((a, b) -> b.compareTo(a)).toList()) {
                Files.delete(file);
            }
        }
    }
}
