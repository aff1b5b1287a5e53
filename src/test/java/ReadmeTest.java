import java.lang.reflect.Method;
import java.net.URL;
import java.net.URLClassLoader;
import java.nio.file.Files;
import java.nio.file.Path;
import java.util.Comparator;
import java.util.List;
import java.util.regex.Matcher;
import java.util.regex.Pattern;
import javax.tools.ToolProvider;

/** README.md tells the truth: its examples compile and answer what their comments say. */
public final class ReadmeTest {
    private static final Path README = Path.of("README.md");
    private static final Pattern EXAMPLE = Pattern.compile("(?s)```java\n(.*?)```");
    private static final Pattern ANSWERED = Pattern.compile("(x\\.\\w+\\(.*?\\)); +// (-?\\d+)\\b.*");

    public static void main(String[] args) throws Exception {
        String readme = Files.readString(README);
        namesEveryMethod(readme);
        Path work = Files.createTempDirectory("readme");
        Matcher example = EXAMPLE.matcher(readme);
        int examples = 0;
        while (example.find()) {
            examples++;
            runs(work, "Example" + examples, example.group(1));
        }
        Due.same(0, "examples", examples, 2);
        try (var files = Files.walk(work)) {
            files.sorted(Comparator.reverseOrder()).forEach(file -> file.toFile().delete());
        }
        Due.end();
    }

    private static void namesEveryMethod(String readme) {
        for (Method method : PeatRailway.class.getMethods()) {
            if (method.getDeclaringClass() == PeatRailway.class) {
                String row = "(?s).*\\| `" + method.getName() + "\\("
                        + "\\w+(, )?".repeat(method.getParameterCount()) + "\\)` \\|.*";
                Due.holds(0, "the table has a row of " + method.getName(), readme.matches(row));
            }
        }
    }

    private static void runs(Path work, String name, String example) throws Exception {
        Path source = work.resolve(name + ".java");
        Files.writeString(source, "public class " + name + " { public static void main() {\n"
                + checked(example) + "} }\n");
        int failed = ToolProvider.getSystemJavaCompiler().run(null, null, null, "-cp",
                System.getProperty("java.class.path"), "-d", work.toString(), source.toString());
        Due.same(0, name + " compiles", failed, 0);
        if (failed == 0) {
            try (URLClassLoader loader = new URLClassLoader(new URL[] {work.toUri().toURL()})) {
                loader.loadClass(name).getMethod("main").invoke(null);
            }
        }
    }

    /** "x.run(5); // 7: .." becomes a call of a public door to Due, which asks for 7. */
    private static String checked(String example) {
        StringBuilder text = new StringBuilder();
        for (String line : List.of(example.split("\n"))) {
            Matcher row = ANSWERED.matcher(line);
            Due.holds(0, "a call with a comment tells its answer: " + line,
                    !line.matches("x\\..*//.*") || row.matches());
            text.append(row.matches() ? "ReadmeTest.same(\"" + row.group(1) + "\", " + row.group(1)
                    + ", " + row.group(2) + ");" : line).append('\n');
        }
        return text.toString();
    }

    /** The examples live in a class loader of their own, from which Due is not to be seen. */
    public static void same(String call, long got, long due) {
        Due.same(0, "README.md: " + call, got, due);
    }
}
