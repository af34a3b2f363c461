import java.io.File;
import java.io.IOException;
import java.lang.reflect.Method;
import java.nio.file.Files;
import java.nio.file.Path;
import java.util.ArrayList;
import java.util.List;
import java.util.Set;
import java.util.TreeSet;
import java.util.regex.Matcher;
import java.util.regex.Pattern;
import java.util.stream.Collectors;
import java.util.stream.Stream;

/** What README.md shows: the calls with their answers, the commands, and the table of tests. */
final class ReadmeTest {
    private static final String MAKING = "PartitionPoset x = new PartitionPoset();";
    private static final Pattern CALL =
            Pattern.compile("x\\.(\\w+)\\(([^)]*)\\); +// (-?\\d+)(:.*)?");
    private static final Path SHARED = Path.of("../shared/tests/PartitionPosetRuns.java");

    private ReadmeTest() {
    }

    public static void main(String[] args) throws Exception {
        List<String> readme = Files.readAllLines(Path.of("README.md"));
        calls(readme);
        codes(String.join(" ", readme));
        allTogether(readme);
        oneAlone(readme);
        tableOfTests(readme);
        Due.end();
    }

    /** Makes the calls of the blocks of Java, in their order and on one object. */
    private static void calls(List<String> readme) throws Exception {
        PartitionPoset x = null;
        int calls = 0;
        for (String line : blocksOfJava(readme)) {
            if (line.startsWith(MAKING)) {
                x = new PartitionPoset();
                continue;
            }
            Matcher call = CALL.matcher(line);
            boolean canBeRead = call.matches() && x != null;
            Due.holds("a call of x, with its answer behind it: " + line, canBeRead);
            if (canBeRead) {
                Due.due("README.md: " + line, answer(x, call.group(1), call.group(2)),
                        Long.parseLong(call.group(3)));
                calls++;
            }
        }
        Due.holds("README.md shows calls", calls >= 20);
    }

    private static List<String> blocksOfJava(List<String> readme) {
        List<String> code = new ArrayList<>();
        boolean inside = false;
        for (String line : readme) {
            if (line.startsWith("```")) {
                inside = line.equals("```java");
            } else if (inside) {
                code.add(line);
            }
        }
        return code;
    }

    private static long answer(PartitionPoset x, String name, String arguments) throws Exception {
        for (Method method : PartitionPoset.class.getMethods()) {
            if (method.getName().equals(name)) {
                return ((Number) method.invoke(x, values(arguments))).longValue();
            }
        }
        throw new NoSuchMethodException(name);
    }

    private static Object[] values(String arguments) {
        if (arguments.isEmpty()) {
            return new Object[0];
        }
        return Stream.of(arguments.split(", ")).map(ReadmeTest::value).toArray();
    }

    private static Object value(String argument) {
        if (argument.equals("true") || argument.equals("false")) {
            return Boolean.valueOf(argument);
        }
        if (argument.startsWith("'")) {
            return (int) argument.charAt(1);
        }
        return Integer.valueOf(argument);
    }

    /** Each code is named with its number. */
    private static void codes(String readme) throws Exception {
        for (String name : List.of("BAD", "EMPTY", "STATE", "FULL", "NONE")) {
            int value = PartitionPoset.class.getField(name).getInt(null);
            Due.holds("README.md tells " + name, readme.contains(name + " (" + value + ")"));
        }
    }

    /** This test itself is run by .ci/run, so that it needs no run here. */
    private static void allTogether(List<String> readme) {
        Due.due("all together", String.join(";", commandsBehind(readme, "All together")), ".ci/run");
        Due.holds(".ci/run can be run", new File(".ci/run").canExecute());
    }

    private static void oneAlone(List<String> readme) throws Exception {
        Ended ours = run(commandsBehind(readme, "One of the project alone"));
        Due.due("one of the project alone ends with", ours.status, 0);
        Due.due("one of the project alone prints", ours.printed, "all answers are as due");
        List<String> shared = commandsBehind(readme, "One of those under");
        // What lies there is not this project's own, and can be another one later.
        if (Files.exists(SHARED)) {
            Due.due("one of those under ../shared/tests ends with", run(shared).status, 0);
        }
    }

    /** The lines that are set in by four, behind the line that begins with a text. */
    private static List<String> commandsBehind(List<String> readme, String beginning) {
        List<String> commands = new ArrayList<>();
        boolean behind = false;
        for (String line : readme) {
            if (line.startsWith("    ") && behind) {
                commands.add(line.trim());
            } else if (!line.isEmpty()) {
                behind = line.startsWith(beginning) || behind && commands.isEmpty();
            }
        }
        Due.holds("README.md has commands behind: " + beginning, !commands.isEmpty());
        return commands;
    }

    private static Ended run(List<String> commands) throws IOException, InterruptedException {
        Process process = new ProcessBuilder("sh", "-e", "-c", String.join("\n", commands))
                .redirectErrorStream(true).start();
        process.getOutputStream().close();
        String printed = new String(process.getInputStream().readAllBytes()).trim();
        return new Ended(process.waitFor(), printed);
    }

    private record Ended(int status, String printed) {
    }

    /** Each test of the project has a row, and each row is of a test of the project. */
    private static void tableOfTests(List<String> readme) throws IOException {
        Set<String> rows = readme.stream().filter(line -> line.matches("\\| \\w+Test \\|.*"))
                .map(line -> line.split(" ")[1]).collect(Collectors.toCollection(TreeSet::new));
        try (Stream<Path> files = Files.list(Path.of("src/test/java"))) {
            Set<String> tests = files.map(file -> file.getFileName().toString())
                    .filter(name -> name.endsWith("Test.java"))
                    .map(name -> name.substring(0, name.length() - ".java".length()))
                    .collect(Collectors.toCollection(TreeSet::new));
            Due.due("the tests in README.md", rows.toString(), tests.toString());
        }
    }
}
