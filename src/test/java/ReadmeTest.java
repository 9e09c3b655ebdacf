import java.lang.reflect.Method;
import java.lang.reflect.Modifier;
import java.nio.file.Files;
import java.nio.file.Path;
import java.util.ArrayList;
import java.util.Arrays;
import java.util.List;
import java.util.regex.Matcher;
import java.util.regex.Pattern;
import java.util.stream.Collectors;
import java.util.stream.Stream;
import javax.tools.ToolProvider;

/** What README.md says of using the class and of running its tests is so. */
public final class ReadmeTest {
    private static final String EXAMPLE = "ReadmeExample";
    private static final Path TESTS = Path.of("src/test/java");

    public static void main(String[] args) throws Exception {
        String text = Files.readString(Path.of("README.md"));
        exampleAnswers(blocks(text, "java"));
        exampleUsesAllMethods(blocks(text, "java"));
        commandsAreThere(blocks(text, "sh"));
        filesAreThere(text);
        testsAreNamed(text);
        Check.end();
    }

    private static List<String> blocks(String text, String language) {
        List<String> lines = new ArrayList<>();
        Matcher m = Pattern.compile("```" + language + "\n(.*?)```", Pattern.DOTALL).matcher(text);
        while (m.find()) {
            lines.addAll(m.group(1).lines().collect(Collectors.toList()));
        }
        return lines;
    }

    private static void exampleAnswers(List<String> lines) throws Exception {
        Check.sentence("its example gives the answers that it names");
        // The test's own class folder, so that the example finds Check and the program there.
        Path folder = Path.of(System.getProperty("java.class.path"));
        Path source = folder.resolve(EXAMPLE + ".java");
        Files.write(source, program(lines));
        int compiled = ToolProvider.getSystemJavaCompiler()
                .run(null, null, null, "-cp", folder.toString(), "-d", folder.toString(), source.toString());
        Check.due("compiling the example", compiled, 0);
        if (compiled == 0) {
            Class.forName(EXAMPLE).getDeclaredMethod("run").invoke(null);
        }
    }

    /** The example as a class, where each line that names an answer checks it. */
    private static List<String> program(List<String> lines) {
        List<String> program = new ArrayList<>(Arrays.asList("final class " + EXAMPLE + " {", "static void run() {"));
        for (String line : lines) {
            Matcher m = Pattern.compile("(.*); *// answers ([^:]*)(:.*)?").matcher(line);
            program.add(m.matches()
                    ? "Check.due(\"" + m.group(1) + "\", " + m.group(1) + ", " + m.group(2) + ");"
                    : line);
        }
        program.addAll(Arrays.asList("}", "}"));
        return program;
    }

    private static void exampleUsesAllMethods(List<String> lines) {
        Check.sentence("README.md says how to use the class");
        for (Method m : DecimalUnit.class.getDeclaredMethods()) {
            if (Modifier.isPublic(m.getModifiers())) {
                Pattern use = Pattern.compile("unit\\." + m.getName() + "\\(.*\\); *// answers .*");
                boolean used = lines.stream().anyMatch(line -> use.matcher(line).matches());
                Check.due("the example names an answer of " + m.getName(), used, true);
            }
        }
    }

    private static void commandsAreThere(List<String> lines) {
        Check.sentence("the way to run the tests that it tells is the one that works");
        Check.due("README.md tells .ci/run", lines.contains(".ci/run"), true);
        Check.due(".ci/run is there", Files.isRegularFile(Path.of(".ci/run")), true);
    }

    private static void filesAreThere(String text) {
        Check.sentence("the files that it names are there");
        Matcher m = Pattern.compile("`((?:src|\\.\\./shared|\\.ci)[^`*\\s]*)`").matcher(text);
        while (m.find()) {
            Check.due(m.group(1) + " is there", Files.exists(Path.of(m.group(1))), true);
        }
    }

    private static void testsAreNamed(String text) throws Exception {
        Check.sentence("README.md names each test");
        try (Stream<Path> files = Files.list(TESTS)) {
            for (Path file : files.collect(Collectors.toList())) {
                Check.due(file + " is named", text.contains("`" + file + "`"), true);
            }
        }
    }
}
