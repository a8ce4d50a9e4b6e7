import java.io.IOException;
import java.net.URL;
import java.net.URLClassLoader;
import java.nio.file.Files;
import java.nio.file.Path;
import java.util.List;
import java.util.function.BiConsumer;
import java.util.function.Consumer;
import java.util.regex.Matcher;
import java.util.regex.Pattern;
import javax.tools.ToolProvider;

/**
 * The example of README.md: it compiles as it stands there, and every call whose comment begins with a number answers
 * that number.
 */
public final class ReadmeTest {
    private static final Path PLACE = Path.of("build", "readme");
    private static final Pattern ANSWERED = Pattern.compile("(int (\\w+) = )?(judge\\..*\\)); *// (-?\\d+)\\b.*");

    // The example is loaded apart, where it can name no class of the tests.
    private static final String HEAD = """
        public final class Example implements java.util.function.Consumer<java.util.function.BiConsumer<String, int[]>> {
            public void accept(java.util.function.BiConsumer<String, int[]> told) {
        """;

    public static void main(String[] args) throws IOException, ReflectiveOperationException {
        Check check = new Check();
        List<String> example = example();
        long calls = example.stream().filter(line -> line.contains("judge.")).count();
        long answered = example.stream().filter(line -> ANSWERED.matcher(line).matches()).count();
        check.holds("the example makes some calls", calls > 0);
        check.due("calls of the example whose answer is told", answered, calls);
        Files.createDirectories(PLACE);
        Path source = PLACE.resolve("Example.java");
        Files.writeString(source, programOf(example));
        int compiled = ToolProvider.getSystemJavaCompiler().run(null, null, null,
            "-d", PLACE.toString(), "-cp", System.getProperty("java.class.path"), source.toString());
        check.due("javac of the example", compiled, 0);
        if (compiled == 0) {
            run(check);
        }
        check.end();
    }

    private static List<String> example() throws IOException {
        return Files.readAllLines(Path.of("README.md")).stream()
            .dropWhile(line -> !line.equals("```java")).skip(1).takeWhile(line -> !line.equals("```")).toList();
    }

    private static String programOf(List<String> example) {
        StringBuilder program = new StringBuilder(HEAD);
        for (String line : example) {
            Matcher call = ANSWERED.matcher(line);
            if (!call.matches()) {
                program.append(line).append('\n');
                continue;
            }
            String got = call.group(3);
            if (call.group(2) != null) {
                program.append(call.group(1)).append(got).append(";\n");
                got = call.group(2);
            }
            program.append(String.format("told.accept(\"%s\", new int[] {%s, %s});%n", call.group(3), got, call.group(4)));
        }
        return program.append("    }\n}\n").toString();
    }

    @SuppressWarnings("unchecked")
    private static void run(Check check) throws IOException, ReflectiveOperationException {
        try (URLClassLoader loader = new URLClassLoader(new URL[] {PLACE.toUri().toURL()})) {
            Object made = loader.loadClass("Example").getConstructor().newInstance();
            BiConsumer<String, int[]> told = (call, answers) -> check.due(call, answers[0], answers[1]);
            ((Consumer<BiConsumer<String, int[]>>) made).accept(told);
        }
    }
}
