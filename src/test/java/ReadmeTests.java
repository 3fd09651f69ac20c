import java.io.File;
import java.io.IOException;
import java.lang.reflect.Method;
import java.lang.reflect.Modifier;
import java.nio.charset.StandardCharsets;
import java.nio.file.DirectoryStream;
import java.nio.file.Files;
import java.nio.file.Path;
import java.util.ArrayList;
import java.util.List;
import java.util.TreeSet;
import java.util.regex.Matcher;
import java.util.regex.Pattern;

/** What README.md says, tried: its commands are run as they stand there, from the project's folder. */
public final class ReadmeTests {
    private static final Path TESTS = Path.of("src/test/java");
    private static final String ALL_TESTS = ".ci/run\n";
    private static final Pattern CALL = Pattern.compile("`(?:new )?(\\w+)\\([^`]*\\)`");
    private static final Pattern ROW_OF_TEST = Pattern.compile("(?m)^\\| `(\\w+)` \\|");

    private final Checks checks = new Checks();
    private final String readme;

    private ReadmeTests() throws IOException {
        readme = Files.readString(Path.of("README.md"));
    }

    public static void main(String[] args) throws IOException, InterruptedException {
        ReadmeTests tests = new ReadmeTests();
        tests.example();
        tests.calls();
        tests.tests();
        tests.commands();
        tests.checks.finish("ReadmeTests");
    }

    private List<String> blocks(String language) {
        List<String> blocks = new ArrayList<>();
        Matcher matcher = Pattern.compile("(?s)```" + language + "\\n(.*?)```").matcher(readme);
        while (matcher.find()) {
            blocks.add(matcher.group(1));
        }
        return blocks;
    }

    private void example() throws IOException {
        checks.part("the example");
        List<String> blocks = blocks("java");
        checks.due("the number of examples", blocks.size(), 1);
        String source = Files.readString(TESTS.resolve("Example.java"));
        checks.due("the example stands in Example.java", source.endsWith("\n" + blocks.get(0)), true);
    }

    private void calls() {
        checks.part("the calls");
        TreeSet<String> face = new TreeSet<>();
        face.add("ParkingRobot");
        for (Method method : ParkingRobot.class.getDeclaredMethods()) {
            if (Modifier.isPublic(method.getModifiers())) {
                face.add(method.getName());
            }
        }
        checks.due("those that are told", namesOf(CALL), face);
    }

    private void tests() throws IOException {
        checks.part("the tests");
        TreeSet<String> files = new TreeSet<>();
        try (DirectoryStream<Path> there = Files.newDirectoryStream(TESTS, "*Tests.java")) {
            there.forEach(file -> files.add(file.getFileName().toString().replace(".java", "")));
        }
        checks.due("those that are told", namesOf(ROW_OF_TEST), files);
    }

    private TreeSet<String> namesOf(Pattern pattern) {
        TreeSet<String> names = new TreeSet<>();
        Matcher matcher = pattern.matcher(readme);
        while (matcher.find()) {
            names.add(matcher.group(1));
        }
        return names;
    }

    private void commands() throws IOException, InterruptedException {
        checks.part("the commands");
        List<String> commands = blocks("sh");
        checks.due("their number", commands.size(), 4);
        checks.due("one runs all tests", commands.contains(ALL_TESTS), true);
        checks.due("and can be run", Files.isExecutable(Path.of(ALL_TESTS.strip())), true);
        for (String command : commands) {
            // this test is a part of that one
            if (!command.equals(ALL_TESTS)) {
                checks.due("the exit code of " + command.strip(), run(command), 0);
            }
        }
        checks.due("what the example prints", blocks("text").contains(printed(commands.get(0))), true);
    }

    private static int run(String command) throws IOException, InterruptedException {
        return bash(command).redirectOutput(ProcessBuilder.Redirect.DISCARD).start().waitFor();
    }

    private static String printed(String command) throws IOException {
        Process process = bash(command).start();
        return new String(process.getInputStream().readAllBytes(), StandardCharsets.UTF_8);
    }

    private static ProcessBuilder bash(String command) {
        return new ProcessBuilder("bash", "-c", command)
            .directory(new File("."))
            .redirectError(ProcessBuilder.Redirect.INHERIT);
    }
}
