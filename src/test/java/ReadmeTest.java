import java.io.File;
import java.io.IOException;
import java.net.URL;
import java.net.URLClassLoader;
import java.nio.charset.StandardCharsets;
import java.nio.file.Files;
import java.nio.file.Path;
import java.util.regex.Matcher;
import java.util.regex.Pattern;
import javax.tools.ToolProvider;

/** Compiles the example of README.md, and looks whether each call answers as the line says. */
public final class ReadmeTest {
    private static final Path README = Path.of("README.md");
    private static final Pattern EXAMPLE = Pattern.compile("(?s)```java\n(.*?)```");
    /** A call that stands in its own line, with the answer behind it. */
    private static final Pattern ANSWERED =
        Pattern.compile("(?m)^(screen\\.\\w+\\([^)\n]*\\)); +// (-?\\d+)\\b.*$");
    private static final Pattern CALL = Pattern.compile("(?m)^screen\\..*$");

    private static int looked = 0;
    private static int wrong = 0;

    public static void main(String[] args) throws IOException, ReflectiveOperationException {
        Matcher examples = EXAMPLE.matcher(Files.readString(README, StandardCharsets.UTF_8));
        int number = 0;
        while (examples.find()) {
            number++;
            look("Example" + number, examples.group(1));
        }
        if (number == 0) {
            fault("README.md has no example");
        }
        System.out.println(wrong == 0 ? looked + " answers are as README.md says"
            : wrong + " faults");
        if (wrong != 0) {
            System.exit(1);
        }
    }

    /** Public for the examples, which a loader of their own brings in. */
    public static void due(String call, int got, int want) {
        looked++;
        if (got != want) {
            fault(call + " answered " + got + ", README.md says " + want);
        }
    }

    private static void fault(String what) {
        wrong++;
        System.out.println(what);
    }

    private static void look(String name, String example)
            throws IOException, ReflectiveOperationException {
        String body = ANSWERED.matcher(example).replaceAll("ReadmeTest.due(\"$1\", $1, $2);");
        Matcher silent = CALL.matcher(body);
        while (silent.find()) {
            fault("README.md does not say what this answers: " + silent.group());
        }
        Path directory = Files.createTempDirectory("readme");
        directory.toFile().deleteOnExit();
        if (compiles(directory, name, body)) {
            run(directory, name);
        } else {
            fault("the example of README.md does not compile");
        }
    }

    private static boolean compiles(Path directory, String name, String body) throws IOException {
        Path source = directory.resolve(name + ".java");
        Files.writeString(source, "public final class " + name + " {\n"
            + "public static void main(String[] args) {\n" + body + "}\n}\n",
            StandardCharsets.UTF_8);
        source.toFile().deleteOnExit();
        new File(directory.toFile(), name + ".class").deleteOnExit();
        int code = ToolProvider.getSystemJavaCompiler().run(null, null, null, "-encoding", "UTF-8",
            "-cp", System.getProperty("java.class.path"), "-d", directory.toString(),
            source.toString());
        return code == 0;
    }

    private static void run(Path directory, String name)
            throws IOException, ReflectiveOperationException {
        try (URLClassLoader loader =
                new URLClassLoader(new URL[] {directory.toUri().toURL()})) {
            loader.loadClass(name).getMethod("main", String[].class)
                .invoke(null, (Object) new String[0]);
        }
    }
}
