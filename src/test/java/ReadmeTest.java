import java.io.File;
import java.io.IOException;
import java.nio.file.Files;
import java.nio.file.Path;
import java.util.List;
import java.util.regex.Matcher;
import java.util.regex.Pattern;
import java.util.stream.Collectors;
import java.util.stream.Stream;
import javax.tools.ToolProvider;

/** The examples of README.md: each is compiled and run, and each answer told behind a call is due. */
public final class ReadmeTest {
    private static final Pattern BLOCK = Pattern.compile("(?ms)^```java\n(.*?)^```$");
    private static final Pattern ANSWERED = Pattern.compile("^(?:int (\\w+) = )?(\\w+\\.\\w+\\(.*\\)); +// (-?\\d+): .+$");

    private static int answers = 0;

    public static void main(String[] args) throws Exception {
        String page = Files.readString(Path.of("README.md"));
        run(programOf(page));
        Check.due("README.md tells answers", answers > 0 ? 1 : 0, 1);
        everyTestIsTold(page);
        Check.end("ReadmeTest");
    }

    private static String programOf(String page) {
        StringBuilder program = new StringBuilder("final class Readme {\n    static void run() {\n");
        Matcher block = BLOCK.matcher(page);
        while (block.find()) {
            block.group(1).lines().forEach(line -> program.append(checked(line)).append('\n'));
        }
        return program.append("    }\n}\n").toString();
    }

    /** A line with its answer told becomes one that looks at it; any other stays as it is. */
    private static String checked(String line) {
        Matcher answered = ANSWERED.matcher(line);
        if (!answered.matches()) {
            Check.due("README.md: read as an answer: " + line, line.contains("//") ? 0 : 1, 1);
            return line;
        }
        answers++;
        String name = answered.group(1);
        String call = answered.group(2);
        String due = "Check.due(\"README.md: " + call.replace("\"", "\\\"") + "\", ";
        return name == null
            ? due + call + ", " + answered.group(3) + ");"
            : "int " + name + " = " + call + "; " + due + name + ", " + answered.group(3) + ");";
    }

    /** Compiled to where the tests' classes stand, so that it finds them. */
    private static void run(String program) throws Exception {
        String folder = System.getProperty("java.class.path").split(File.pathSeparator)[0];
        Path source = Path.of(folder, "Readme.java");
        Files.writeString(source, program);
        int compiled = ToolProvider.getSystemJavaCompiler().run(null, null, null,
            "-cp", folder, "-d", folder, source.toString());
        Check.due("README.md: compiled", compiled, 0);
        if (compiled == 0) {
            Class.forName("Readme").getDeclaredMethod("run").invoke(null);
        }
    }

    private static void everyTestIsTold(String page) throws IOException {
        try (Stream<Path> files = Files.list(Path.of("src/test/java"))) {
            List<String> names = files.map(file -> file.getFileName().toString().replace(".java", ""))
                .filter(name -> name.endsWith("Test")).collect(Collectors.toList());
            names.forEach(name -> Check.due("README.md tells of " + name, page.contains("| " + name + " |") ? 1 : 0, 1));
        }
    }
}
