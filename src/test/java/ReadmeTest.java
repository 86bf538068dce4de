import java.io.IOException;
import java.lang.reflect.InvocationTargetException;
import java.net.URL;
import java.net.URLClassLoader;
import java.nio.file.Files;
import java.nio.file.Path;
import java.util.Set;
import java.util.TreeSet;
import java.util.regex.Matcher;
import java.util.regex.Pattern;
import java.util.stream.Stream;
import javax.tools.ToolProvider;

/** What README.md shows is true: its Java is compiled and run, each call beside the answer that it shows. */
public final class ReadmeTest {
    private static final Checks c = new Checks();
    private static final Path README = Path.of("README.md");
    private static final Path TESTS = Path.of("src/test/java");
    private static final Pattern BLOCK = Pattern.compile("```java\n(.*?)```", Pattern.DOTALL);
    private static final Pattern ANSWERED = Pattern.compile("(\\S.*);\\s+// (.*)");
    private static final Pattern REFUSED = Pattern.compile("throws (\\w+)");
    private static final int LEAST_ANSWERS = 20;

    // What the generated example calls.
    private static final String HELPERS = "static void due(String call, Object got, Object want) { ReadmeTest.due(call, got, want); }\n"
        + "static void refuses(String call, Class<?> kind, Runnable made) { ReadmeTest.refuses(call, kind, made); }\n";

    private static int answers = 0;

    public static void main(String[] args) throws Exception {
        String readme = Files.readString(README);
        run(example(readme));
        c.holds("README.md shows answers", answers >= LEAST_ANSWERS);
        namesOfTests(readme);
        c.end("ReadmeTest");
    }

    // Both are called by the example, which another class loader loads.

    public static void due(String call, Object got, Object want) {
        answers++;
        c.same("README.md: " + call, got.getClass() + " " + got, want.getClass() + " " + want);
    }

    public static void refuses(String call, Class<?> kind, Runnable made) {
        answers++;
        c.refuses("README.md: " + call, kind, made::run);
    }

    /** One class of all Java in the text: blocks of members as they are, blocks of statements in its main. */
    private static String example(String readme) {
        StringBuilder members = new StringBuilder(HELPERS);
        StringBuilder statements = new StringBuilder();
        Matcher block = BLOCK.matcher(readme);
        while (block.find()) {
            if (block.group(1).startsWith("static ")) {
                members.append(block.group(1));
            } else {
                block.group(1).lines().forEach(line -> statements.append(checked(line)).append('\n'));
            }
        }
        return "final class ReadmeExample {\n" + members + "static void main() {\n" + statements + "}\n}\n";
    }

    /** A call with its answer becomes a check; another line stays. */
    private static String checked(String line) {
        Matcher answered = ANSWERED.matcher(line);
        if (!answered.matches()) {
            c.holds("an answer stands behind " + line, !line.startsWith("castle.") && !line.startsWith("written("));
            return line;
        }
        String call = answered.group(1);
        String quoted = "\"" + call.replace("\\", "\\\\").replace("\"", "\\\"") + "\"";
        Matcher refused = REFUSED.matcher(answered.group(2));
        if (refused.matches()) {
            return "refuses(" + quoted + ", " + refused.group(1) + ".class, () -> " + call + ");";
        }
        return "due(" + quoted + ", " + call + ", " + answered.group(2) + ");";
    }

    private static void run(String source) throws Exception {
        Path made = Files.createTempDirectory("readme");
        Path file = made.resolve("ReadmeExample.java");
        Files.writeString(file, source);
        int verdict = ToolProvider.getSystemJavaCompiler().run(null, null, null, "-Xlint:all", "-Werror",
            "-cp", System.getProperty("java.class.path"), "-d", made.toString(), file.toString());
        c.same("README.md's Java compiles", verdict, 0);
        if (verdict == 0) {
            start(made);
        }
        try (Stream<Path> files = Files.list(made)) {
            for (Path one : files.toList()) {
                Files.delete(one);
            }
        }
        Files.delete(made);
    }

    private static void start(Path made) throws Exception {
        try (URLClassLoader loader = new URLClassLoader(new URL[] {made.toUri().toURL()})) {
            var main = loader.loadClass("ReadmeExample").getDeclaredMethod("main");
            main.setAccessible(true);
            main.invoke(null);
        } catch (InvocationTargetException e) {
            c.same("README.md's Java runs", e.getCause().toString(), "without an exception");
        }
    }

    /** README.md names each test that there is, and no other. */
    private static void namesOfTests(String readme) throws IOException {
        Set<String> named = new TreeSet<>();
        Matcher name = Pattern.compile("(?m)^\\| `(\\w+Test)` \\|").matcher(readme);
        while (name.find()) {
            named.add(name.group(1));
        }
        Set<String> there = new TreeSet<>();
        try (Stream<Path> files = Files.list(TESTS)) {
            files.map(file -> file.getFileName().toString()).filter(file -> file.endsWith("Test.java"))
                .forEach(file -> there.add(file.replace(".java", "")));
        }
        c.same("the tests that README.md names", named.toString(), there.toString());
    }
}
