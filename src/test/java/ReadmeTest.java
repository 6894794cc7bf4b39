import java.io.IOException;
import java.lang.reflect.Method;
import java.lang.reflect.Modifier;
import java.net.URL;
import java.net.URLClassLoader;
import java.nio.file.DirectoryStream;
import java.nio.file.Files;
import java.nio.file.Path;
import java.util.regex.Matcher;
import java.util.regex.Pattern;
import javax.tools.ToolProvider;

/** README.md is so: its rows compile and answer what stands behind them, and it names all calls and all tests. */
public final class ReadmeTest {
    private static final Path README = Path.of("README.md");
    private static final Path TESTS = Path.of("src/test/java");
    private static final Path MADE = Path.of("build/readme");
    private static final Pattern ROW = Pattern.compile("(w\\.\\w+\\(.*\\)); +// (-?\\d+)(?:$|: .*|,.*)|(w\\.\\w+\\(.*\\));.*");

    private ReadmeTest() {
    }

    public static void main(String[] args) throws Exception {
        String readme = Files.readString(README);
        Check.holds("there are rows to be run", runRows(readme) > 0);
        namesCalls(readme);
        namesTests(readme);
        Check.end("ReadmeTest");
    }

    /** The blocks become a class of their own, each a block of its main(). */
    private static int runRows(String readme) throws Exception {
        StringBuilder source = new StringBuilder("public final class Rows { public static void main(String[] args) {\n");
        int rows = 0;
        Matcher blocks = Pattern.compile("```java\n(.*?)```", Pattern.DOTALL).matcher(readme);
        while (blocks.find()) {
            source.append("{\n");
            for (String line : blocks.group(1).split("\n")) {
                Matcher row = ROW.matcher(line);
                boolean isRow = row.matches();
                Check.holds("an answer behind " + line, !isRow || row.group(2) != null);
                rows += isRow ? 1 : 0;
                source.append(isRow ? dueOf(row.group(1), row.group(2)) : line).append('\n');
            }
            source.append("}\n");
        }
        run(source.append("} }\n").toString());
        return rows;
    }

    private static String dueOf(String call, String answer) {
        return "Check.due(\"" + call.replace("\"", "\\\"") + "\", " + call + ", " + answer + ");";
    }

    private static void run(String source) throws Exception {
        Files.createDirectories(MADE);
        Path file = Files.writeString(MADE.resolve("Rows.java"), source);
        String classes = System.getProperty("java.class.path");
        int code = ToolProvider.getSystemJavaCompiler().run(null, null, null,
                "-cp", classes, "-d", MADE.toString(), file.toString());
        Check.due("what javac says of the rows", code, 0);
        try (URLClassLoader loader = new URLClassLoader(new URL[] {MADE.toUri().toURL()})) {
            loader.loadClass("Rows").getMethod("main", String[].class).invoke(null, (Object) new String[0]);
        }
    }

    private static void namesCalls(String readme) {
        for (Method method : WindowRounds.class.getDeclaredMethods()) {
            if (Modifier.isPublic(method.getModifiers())) {
                Check.holds("README.md names " + method.getName(), readme.contains("`" + method.getName() + "`"));
            }
        }
    }

    private static void namesTests(String readme) throws IOException {
        try (DirectoryStream<Path> all = Files.newDirectoryStream(TESTS, "*.java")) {
            for (Path one : all) {
                String name = one.getFileName().toString().replace(".java", "");
                Check.holds("README.md names " + name, readme.contains("`" + name + "`"));
            }
        }
    }
}
