import java.io.File;
import java.io.IOException;
import java.nio.file.Files;
import java.nio.file.Path;
import java.util.ArrayList;
import java.util.Comparator;
import java.util.List;
import java.util.Set;
import java.util.TreeSet;
import java.util.regex.Matcher;
import java.util.regex.Pattern;
import java.util.stream.Stream;

/** README.md says what is: its calls answer as it says, its commands work, its tables name what is there. */
public final class ReadmeTest {
    private static final Pattern BLOCK = Pattern.compile("(?s)```(java|sh)\n(.*?)```");
    private static final Pattern CALL = Pattern.compile("((?:x\\.|feed\\().*\\)); +// (-?\\d+|true|false): .*");
    private static final Pattern CELL = Pattern.compile("(?m)^\\| (`[^|]*) \\|");
    private static final Pattern NAME = Pattern.compile("`(\\w+)`");
    private static final Check CHECK = new Check("ReadmeTest");

    public static void main(String[] args) throws IOException, InterruptedException {
        String page = Files.readString(Path.of("README.md"));
        Path out = Files.createTempDirectory("readme");
        try {
            testCalls(page, out);
            testCommands(page, out);
        } finally {
            remove(out);
        }
        testTables(page);
        CHECK.end();
    }

    private static List<String> blocks(String page, String language) {
        List<String> all = new ArrayList<>();
        Matcher m = BLOCK.matcher(page);
        while (m.find()) {
            if (m.group(1).equals(language)) {
                all.add(m.group(2));
            }
        }
        return all;
    }

    /** Makes a program of the page's Java that holds each call's answer against the one behind it, and runs it. */
    private static void testCalls(String page, Path out) throws IOException, InterruptedException {
        StringBuilder calls = new StringBuilder();
        StringBuilder helpers = new StringBuilder();
        int asked = 0;
        for (String block : blocks(page, "java")) {
            if (block.startsWith("static ")) {
                helpers.append(block);
                continue;
            }
            for (String line : block.split("\n")) {
                Matcher call = CALL.matcher(line);
                boolean answers = call.matches();
                asked += answers ? 1 : 0;
                CHECK.that("an answer is told or none is due: " + line, answers || !line.matches("(x\\.|feed).*"));
                calls.append(answers ? "c.due(\"" + call.group(1).replace("\"", "'") + "\", " + call.group(1) + ", "
                    + call.group(2) + ");" : line).append('\n');
            }
        }
        CHECK.that("the page shows calls: " + asked, asked > 30);
        Path program = out.resolve("Shown.java");
        Files.writeString(program, "final class Shown {\n" + helpers + "public static void main(String[] args) {\n"
            + "Check c = new Check(\"README.md\");\n" + calls + "c.end();\n}\n}\n");
        String path = "src/main/java" + File.pathSeparator + "src/test/java";
        dueGood(out, "javac", "-d", out.toString(), "-sourcepath", path, program.toString());
        dueGood(out, "java", "-cp", out.toString(), "Shown");
    }

    private static void testCommands(String page, Path out) throws IOException, InterruptedException {
        List<String> commands = blocks(page, "sh");
        CHECK.that("the page shows commands", !commands.isEmpty());
        for (String command : commands) {
            dueGood(out, "sh", "-e", "-c", command);
        }
        CHECK.that("the page tells the run of all tests", page.contains("`bash .ci/run`"));
        CHECK.that(".ci/run can be run", Files.isExecutable(Path.of(".ci/run")));
    }

    private static void dueGood(Path out, String... command) throws IOException, InterruptedException {
        Path said = out.resolve("said");
        ProcessBuilder builder = new ProcessBuilder(command).redirectErrorStream(true).redirectOutput(said.toFile());
        builder.environment().put("TMPDIR", out.toString());
        int code = builder.start().waitFor();
        CHECK.due(String.join(" ", command) + " said " + Files.readString(said) + "and", code, 0);
    }

    private static void remove(Path directory) throws IOException {
        try (Stream<Path> all = Files.walk(directory)) {
            for (Path one : all.sorted(Comparator.reverseOrder()).toList()) {
                Files.delete(one);
            }
        }
    }

    private static void testTables(String page) throws IOException {
        Set<String> named = new TreeSet<>();
        Matcher cells = CELL.matcher(page);
        while (cells.find()) {
            Matcher names = NAME.matcher(cells.group(1));
            while (names.find()) {
                named.add(names.group(1));
            }
        }
        Set<String> there = new TreeSet<>();
        for (Class<?> inside : IceSearch.class.getDeclaredClasses()) {
            there.add(inside.getSimpleName());
        }
        try (Stream<Path> files = Files.list(Path.of("src/test/java"))) {
            files.map(f -> f.getFileName().toString()).filter(f -> f.endsWith("Test.java"))
                .forEach(f -> there.add(f.replace(".java", "")));
        }
        CHECK.that("the tables name " + there + ", not " + named, named.equals(there));
    }
}
