import java.io.IOException;
import java.net.URL;
import java.net.URLClassLoader;
import java.nio.file.Files;
import java.nio.file.Path;
import java.util.List;
import java.util.regex.Matcher;
import java.util.regex.Pattern;
import java.util.stream.Collectors;
import java.util.stream.Stream;
import javax.tools.ToolProvider;

/** What README.md says holds: its example answers as it tells, and each test is in its table; run from the project's folder. */
final class ReadmeTest {
    private static final Path README = Path.of("README.md");
    private static final Path TESTS = Path.of("src", "test", "java");
    private static final Path BUILD = Path.of("build", "readme");
    private static final Pattern TOLD = Pattern.compile("(.*?)(desk\\..*);\\s*// (-?[0-9]+): .*");
    private static final String HEAD = """
            public final class ReadmeExample {
                private static final StringBuilder ANSWERS = new StringBuilder();
                private static int answers(int got) {
                    ANSWERS.append(got).append(' ');
                    return got;
                }
                public static String run() {
            """;
    private static final String FOOT = """
                    return ANSWERS.toString();
                }
            }
            """;

    private final Check check = new Check("ReadmeTest");

    public static void main(String[] args) throws IOException, ReflectiveOperationException {
        ReadmeTest test = new ReadmeTest();
        test.theExampleAnswersAsItTells();
        test.eachTestIsInTheTable();
        test.check.end();
    }

    private void theExampleAnswersAsItTells() throws IOException, ReflectiveOperationException {
        StringBuilder code = new StringBuilder(HEAD);
        StringBuilder due = new StringBuilder();
        for (String line : example()) {
            Matcher told = TOLD.matcher(line);
            boolean isTold = told.matches();
            code.append(isTold ? told.group(1) + "answers(" + told.group(2) + ");" : line).append('\n');
            due.append(isTold ? told.group(3) + " " : "");
        }
        check.isTrue("answers are told", due.length() > 0);
        check.sameText("the answers of the example", answersOf(code + FOOT), due.toString());
    }

    private static List<String> example() throws IOException {
        return Files.readAllLines(README).stream().dropWhile(line -> !line.equals("```java")).skip(1)
                .takeWhile(line -> !line.equals("```")).collect(Collectors.toList());
    }

    private String answersOf(String code) throws IOException, ReflectiveOperationException {
        Files.createDirectories(BUILD);
        Path file = BUILD.resolve("ReadmeExample.java");
        Files.writeString(file, code);
        int wrong = ToolProvider.getSystemJavaCompiler().run(null, null, null, "-cp", System.getProperty("java.class.path"),
                "-d", BUILD.toString(), file.toString());
        check.same("errors of the compiler", wrong, 0);
        try (URLClassLoader loader = new URLClassLoader(new URL[] {BUILD.toUri().toURL()})) {
            return (String) loader.loadClass("ReadmeExample").getMethod("run").invoke(null);
        }
    }

    private void eachTestIsInTheTable() throws IOException {
        String readme = Files.readString(README);
        try (Stream<Path> files = Files.list(TESTS)) {
            for (Path file : files.collect(Collectors.toList())) {
                String name = file.getFileName().toString().replace(".java", "");
                check.isTrue(name + " is in the table", !name.endsWith("Test") || readme.contains("`" + name + "`"));
            }
        }
    }
}
