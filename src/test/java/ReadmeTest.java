import java.io.ByteArrayOutputStream;
import java.io.IOException;
import java.io.PrintStream;
import java.net.URL;
import java.net.URLClassLoader;
import java.nio.file.Files;
import java.nio.file.Path;
import java.util.ArrayList;
import java.util.List;
import java.util.regex.Matcher;
import java.util.regex.Pattern;
import java.util.stream.Stream;
import javax.tools.ToolProvider;

/** The program in README.md is true as it stands: it is compiled, and each line prints what the words beside it say. */
public final class ReadmeTest {
    private static final Pattern PROGRAM = Pattern.compile("```java\\n(.*?)```", Pattern.DOTALL);
    private static final Pattern NAME = Pattern.compile("public class (\\w+)");
    private static final Pattern PRINTS = Pattern.compile("// prints (\\S+):");

    public static void main(String[] args) throws Exception {
        Matcher program = PROGRAM.matcher(Files.readString(Path.of("README.md")));
        int programs = 0;
        Checks.about("README.md");
        while (program.find()) {
            programs++;
            String text = program.group(1);
            Checks.same(String.join(" ", printed(text)), String.join(" ", due(text)));
        }
        Checks.due("programs", programs, 1);
        Checks.finish("what README.md shows is so");
    }

    private static List<String> due(String program) {
        List<String> due = new ArrayList<>();
        Matcher prints = PRINTS.matcher(program);
        while (prints.find()) {
            due.add(prints.group(1));
        }
        Checks.due("whether something is printed", !due.isEmpty(), true);
        return due;
    }

    private static List<String> printed(String program) throws Exception {
        Path directory = Files.createTempDirectory("readme");
        try {
            return run(program, directory);
        } finally {
            delete(directory);
        }
    }

    private static List<String> run(String program, Path directory) throws Exception {
        Matcher name = NAME.matcher(program);
        if (!name.find()) {
            return List.of("no class");
        }
        Path source = directory.resolve(name.group(1) + ".java");
        Files.writeString(source, program);
        int failed = ToolProvider.getSystemJavaCompiler().run(null, null, null, "-d", directory.toString(),
                "-cp", System.getProperty("java.class.path"), source.toString());
        return failed == 0 ? linesOf(name.group(1), directory) : List.of("it can't be compiled");
    }

    private static List<String> linesOf(String name, Path directory) throws Exception {
        ByteArrayOutputStream bytes = new ByteArrayOutputStream();
        PrintStream screen = System.out;
        try (URLClassLoader loader = new URLClassLoader(new URL[] {directory.toUri().toURL()})) {
            System.setOut(new PrintStream(bytes, true));
            Class.forName(name, true, loader).getMethod("main", String[].class).invoke(null, (Object) new String[0]);
        } finally {
            System.setOut(screen);
        }
        return bytes.toString().lines().toList();
    }

    private static void delete(Path directory) throws IOException {
        try (Stream<Path> files = Files.list(directory)) {
            for (Path file : files.toList()) {
                Files.delete(file);
            }
        }
        Files.delete(directory);
    }
}
