import java.io.IOException;
import java.io.UncheckedIOException;
import java.lang.reflect.Method;
import java.lang.reflect.Modifier;
import java.net.URL;
import java.net.URLClassLoader;
import java.nio.file.Files;
import java.nio.file.Path;
import java.util.List;
import java.util.regex.Matcher;
import java.util.regex.Pattern;
import java.util.stream.Stream;
import javax.tools.JavaCompiler;
import javax.tools.ToolProvider;

/**
 * README.md tells what the class does. Its example is compiled, with each line that tells an answer
 * turned into one that keeps the answer that was told and the one that came.
 */
public final class ReadmeTest {
    private static final Path README = Path.of("README.md");
    private static final Path TESTS = Path.of("src", "test", "java");

    private static final Pattern EXAMPLE = Pattern.compile("```java\n(.*?)```", Pattern.DOTALL);
    private static final Pattern ANSWERED = Pattern.compile("(?m)^( +)(.*\\));  +// ([^:\n]+)(: .*)?$");
    private static final String HEAD = "public class Example {\n";
    private static final String KEEPER = HEAD
            + "    public static final java.util.List<String[]> KEPT = new java.util.ArrayList<>();\n"
            + "    static void keep(String call, Object got, Object told) {\n"
            + "        KEPT.add(new String[] {call, String.valueOf(got), String.valueOf(told)});\n"
            + "    }\n";

    private final Report report = new Report();
    private final String readme;
    private final String example;

    private ReadmeTest() throws IOException {
        readme = Files.readString(README);
        Matcher matcher = EXAMPLE.matcher(readme);
        example = matcher.find() ? matcher.group(1) : "";
    }

    public static void main(String[] args) throws IOException {
        ReadmeTest test = new ReadmeTest();
        test.report.runAll(test::answersAreThoseOfTheClass, test::exampleUsesTheWholeFace, test::testsAreNamed);
    }

    private void answersAreThoseOfTheClass() {
        report.sentence("README.md", "An example, with what each call answers behind it");
        report.due("lines that tell an answer", ANSWERED.matcher(example).find(), true);
        report.due("lines with a comment", linesWith("//"), linesWith("// [^:]+(: .+)?$"));
        int told = 0;
        for (String[] kept : runExample()) {
            report.due(kept[0], kept[1], kept[2]);
            told++;
        }
        report.due("answers that are compared", told, linesWith("//"));
    }

    private void exampleUsesTheWholeFace() {
        report.sentence("The public face", "public final class RoleParts");
        for (Method method : RoleParts.class.getDeclaredMethods()) {
            if (Modifier.isPublic(method.getModifiers())) {
                report.due("use of " + method.getName(), example.contains("x." + method.getName() + "("), true);
            }
        }
    }

    private void testsAreNamed() {
        report.sentence("README.md", "The tests of the project");
        try (Stream<Path> files = Files.list(TESTS)) {
            for (Path file : files.toList()) {
                String name = file.getFileName().toString().replace(".java", "");
                report.due("name of " + name, readme.contains("`" + name + "`"), true);
            }
        } catch (IOException e) {
            throw new UncheckedIOException(e);
        }
    }

    private int linesWith(String pattern) {
        return (int) example.lines().filter(line -> Pattern.compile(pattern).matcher(line).find()).count();
    }

    /** The calls of the example, each with the answer that came and the one that was told. */
    private List<String[]> runExample() {
        try {
            Path directory = Files.createTempDirectory("readme");
            try {
                return runExampleIn(directory);
            } finally {
                deleteAll(directory);
            }
        } catch (IOException | ReflectiveOperationException e) {
            throw new IllegalStateException("the example does not run", e);
        }
    }

    private List<String[]> runExampleIn(Path directory) throws IOException, ReflectiveOperationException {
        Path file = Files.writeString(directory.resolve("Example.java"), keepingAnswers());
        JavaCompiler compiler = ToolProvider.getSystemJavaCompiler();
        int failed = compiler.run(null, null, null, "--release", "17", "-cp", System.getProperty("java.class.path"),
                "-d", directory.toString(), file.toString());
        if (failed != 0) {
            throw new IllegalStateException("the example does not compile");
        }
        try (URLClassLoader loader = new URLClassLoader(new URL[] {directory.toUri().toURL()})) {
            Class<?> compiled = loader.loadClass("Example");
            compiled.getMethod("main", String[].class).invoke(null, (Object) new String[0]);
            @SuppressWarnings("unchecked")
            List<String[]> kept = (List<String[]>) compiled.getField("KEPT").get(null);
            return kept;
        }
    }

    private String keepingAnswers() {
        String kept = ANSWERED.matcher(example).replaceAll(line -> Matcher.quoteReplacement(line.group(1)
                + "keep(\"" + line.group(2).replace("\"", "\\\"") + "\", " + line.group(2) + ", "
                + line.group(3).replaceAll("NONE|BAD", "RoleParts.$0") + ");"));
        return kept.replace(HEAD, KEEPER);
    }

    private static void deleteAll(Path directory) throws IOException {
        try (Stream<Path> files = Files.list(directory)) {
            for (Path file : files.toList()) {
                Files.delete(file);
            }
        }
        Files.delete(directory);
    }
}
