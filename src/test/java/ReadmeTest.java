import java.io.IOException;
import java.net.URL;
import java.net.URLClassLoader;
import java.nio.file.Files;
import java.nio.file.Path;
import java.util.regex.Matcher;
import java.util.regex.Pattern;
import javax.tools.ToolProvider;

/** The Java of README.md, compiled and run: each line with an answer behind it must give that answer. */
public final class ReadmeTest {
    private static final Pattern BLOCK = Pattern.compile("```java\n(.*?)```", Pattern.DOTALL);
    private static final Pattern ANSWERED = Pattern.compile("(?m)^(x\\..*\\)); +// (-?\\d+|true|false)\\b.*$");
    private static final int LEAST_ANSWERS = 20;

    private static int checked;
    private static int wrong;

    public static void main(String[] args) throws IOException, ReflectiveOperationException {
        Path folder = Files.createTempDirectory("readme");
        Path source = folder.resolve("Example.java");
        Files.writeString(source, example(Files.readString(Path.of("README.md"))));
        String classes = System.getProperty("java.class.path");
        int compiled = ToolProvider.getSystemJavaCompiler().run(null, null, null, "-cp", classes, "-d",
            folder.toString(), source.toString());
        if (compiled == 0) {
            runExample(folder);
        }
        deleteAll(folder);
        System.out.println(checked + " answers of README.md looked at, " + wrong + " wrong");
        if (compiled != 0 || wrong != 0 || checked < LEAST_ANSWERS) {
            System.exit(1);
        }
    }

    /** Called by the lines of the page. */
    public static void due(String call, Object got, Object want) {
        checked++;
        if (!got.equals(want)) {
            wrong++;
            System.out.println(call + " answered " + got + ", README.md says " + want);
        }
    }

    private static String example(String page) {
        StringBuilder methods = new StringBuilder();
        StringBuilder lines = new StringBuilder();
        Matcher block = BLOCK.matcher(page);
        while (block.find()) {
            String code = block.group(1);
            if (code.startsWith("static ")) {
                methods.append(code);
            } else {
                lines.append(ANSWERED.matcher(code).replaceAll("ReadmeTest.due(\"$1\", $1, $2);"));
            }
        }
        return "public class Example {\n" + methods + "public static void run() {\n" + lines + "}\n}\n";
    }

    private static void runExample(Path folder) throws IOException, ReflectiveOperationException {
        try (URLClassLoader loader = new URLClassLoader(new URL[] {folder.toUri().toURL()})) {
            loader.loadClass("Example").getMethod("run").invoke(null);
        }
    }

    private static void deleteAll(Path folder) throws IOException {
        try (var files = Files.list(folder)) {
            for (Path file : (Iterable<Path>) files::iterator) {
                Files.delete(file);
            }
        }
        Files.delete(folder);
    }
}
