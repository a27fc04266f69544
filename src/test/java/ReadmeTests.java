import java.io.IOException;
import java.lang.reflect.InvocationTargetException;
import java.net.URL;
import java.net.URLClassLoader;
import java.nio.file.Files;
import java.nio.file.Path;
import java.util.List;
import java.util.regex.Matcher;
import java.util.regex.Pattern;
import java.util.stream.Collectors;
import java.util.stream.Stream;
import javax.tools.ToolProvider;

/** README.md: the calls it shows answer what stands behind them, its constants are so, and it names every test. */
public final class ReadmeTests extends Checks {
    private static final Pattern BLOCK = Pattern.compile("(?s)```java\n(.*?)```");
    private static final Pattern ANSWERED = Pattern.compile("(?m)^(x\\..*\\)); +// (-?\\d+)\\b.*$");
    private static final Pattern CONSTANT = Pattern.compile("`(BAD|STATE|FULL|NONE|NO)`(?: \\| | \\()(-\\d+)");

    /** Called by the class that is made of README.md's lines. */
    public static void shown(String call, long got, long want) {
        due("README.md: " + call, got, want);
    }

    /** README.md's blocks, one behind the other, each answered call a check. */
    private static String example(String readme) {
        StringBuilder lines = new StringBuilder();
        Matcher blocks = BLOCK.matcher(readme);
        while (blocks.find()) {
            lines.append(ANSWERED.matcher(blocks.group(1)).replaceAll("ReadmeTests.shown(\"$1\", $1, $2L);"));
        }
        return "public final class Example { public static void run() {\n" + lines + "} }\n";
    }

    private static void calls(String readme, Path place) throws IOException, ReflectiveOperationException {
        long due = ANSWERED.matcher(readme).results().count();
        long some = BLOCK.matcher(readme).results().flatMap(b -> b.group(1).lines()).filter(l -> l.startsWith("x.")).count();
        due("calls of README.md that tell an answer", due, some);
        Path source = Files.writeString(place.resolve("Example.java"), example(readme));
        String classes = System.getProperty("java.class.path");
        int failed = ToolProvider.getSystemJavaCompiler().run(null, null, null,
            "-proc:none", "-cp", classes, "-d", place.toString(), source.toString());
        due("compiling what README.md shows", failed, 0);
        if (failed == 0) {
            try (URLClassLoader loader = new URLClassLoader(new URL[] {place.toUri().toURL()})) {
                loader.loadClass("Example").getMethod("run").invoke(null);
            }
        }
    }

    private static void constants(String readme) {
        List<String> values = List.of("BAD " + BAD, "FULL " + FULL, "NO " + NO, "NONE " + NONE, "STATE " + STATE);
        String told = CONSTANT.matcher(readme).results().map(m -> m.group(1) + " " + m.group(2)).sorted()
            .collect(Collectors.joining("\n"));
        same("README.md's constants", told, String.join("\n", values));
    }

    private static void tests(String readme) throws IOException {
        String told = readme.lines().filter(line -> line.startsWith("- `")).collect(Collectors.joining());
        try (Stream<Path> files = Files.list(Path.of("src/test/java"))) {
            for (Path file : files.toList()) {
                String name = file.getFileName().toString().replace(".java", "");
                due("README.md names " + name, told.contains("`" + name + "`") ? 1 : 0, 1);
            }
        }
    }

    private static void empty(Path place) throws IOException {
        for (String file : List.of("Example.java", "Example.class", "")) {
            Files.deleteIfExists(place.resolve(file));
        }
    }

    public static void main(String[] args) throws IOException, ReflectiveOperationException {
        String readme = Files.readString(Path.of("README.md"));
        Path place = Files.createTempDirectory("readme");
        try {
            calls(readme, place);
        } catch (InvocationTargetException thrown) {
            due("README.md's calls throw " + thrown.getCause(), 1, 0);
        } finally {
            empty(place);
        }
        constants(readme);
        tests(readme);
        end("readme");
    }
}
