import java.io.IOException;
import java.lang.reflect.Field;
import java.lang.reflect.Method;
import java.lang.reflect.Modifier;
import java.nio.file.Files;
import java.nio.file.Path;
import java.util.ArrayList;
import java.util.List;
import java.util.Set;
import java.util.TreeSet;
import java.util.regex.Matcher;
import java.util.regex.Pattern;

/** Those rules of LANGUAGE.md that can be seen in the source's words or in the compiled classes. */
public final class RulesTest {
    private static final Set<String> LIBRARY = Set.of("Arrays.fill", "Math.abs", "Math.max", "Math.min",
            "Long.numberOfTrailingZeros", "System.arraycopy");
    private static final Set<String> THROWN = Set.of("IllegalArgumentException", "IndexOutOfBoundsException");
    private static final Set<String> FORBIDDEN = Set.of("try", "catch", "finally", "synchronized", "assert", "native",
            "volatile", "transient", "protected", "package", "double", "float", "var", "yield", "record", "enum");

    public static void main(String[] args) throws IOException {
        String source = withoutComments(Files.readString(Path.of("src/main/java/CellAreas.java")));
        List<Class<?>> classes = new ArrayList<>(List.of(CellAreas.class));
        classes.addAll(List.of(CellAreas.class.getDeclaredClasses()));
        Checks.about("LANGUAGE.md");
        words(source);
        library(source, classes);
        newObjects(source);
        methodLengths(source);
        Checks.due("at most twelve classes", classes.size() <= 12, true);
        for (Class<?> type : classes) {
            classRules(type);
        }
        Checks.finish("the rules that can be looked at hold");
    }

    private static String withoutComments(String source) {
        return source.replaceAll("(?s)/\\*.*?\\*/", "").replaceAll("//[^\n]*", "");
    }

    /** Rules 2, 3 and 6: what is not to be there at all. */
    private static void words(String source) {
        Matcher word = Pattern.compile("[A-Za-z_]\\w*").matcher(source);
        while (word.find()) {
            Checks.due("no " + word.group(), FORBIDDEN.contains(word.group()), false);
        }
        for (String sign : List.of("->", "::", "\"", "static {", "[][]")) {
            Checks.due("no " + sign, source.contains(sign), false);
        }
    }

    /** Rules 4, 6 and 13: of the library only what is listed, and so no clock, no randomness, no file. */
    private static void library(String source, List<Class<?>> classes) {
        Set<String> own = new TreeSet<>();
        for (Class<?> type : classes) {
            own.add(type.getSimpleName());
        }
        Matcher name = Pattern.compile("(?<![\\w.])([A-Z]\\w*[a-z]\\w*)(\\.\\w+)?").matcher(source);
        while (name.find()) {
            Checks.due(name.group() + " is listed", own.contains(name.group(1)) || THROWN.contains(name.group())
                    || LIBRARY.contains(name.group()), true);
        }
        Matcher imported = Pattern.compile("import ([^;]*);").matcher(source);
        while (imported.find()) {
            Checks.same(imported.group(1), "java.util.Arrays");
        }
    }

    /** Rule 12: all objects but exceptions are made with the object itself, so no call fills the room. */
    private static void newObjects(String source) {
        for (String line : source.split("\n")) {
            boolean made = line.contains("new ") && !line.contains("throw new ");
            boolean inField = line.matches(" {4,8}(private )?(static )?(final )?[\\w\\[\\]]+ \\w+ = new .*;");
            boolean inConstructor = line.matches(" {12}areas\\[a\\] = new Area\\(\\);");
            Checks.due("made with the object: " + line, made && !inField && !inConstructor, false);
        }
    }

    /** Rule 11: from a line that opens a method to the one that closes it, by their indent. */
    private static void methodLengths(String source) {
        String[] lines = source.split("\n");
        for (int from = 0; from < lines.length; from++) {
            Matcher opens = Pattern.compile("( {4}| {8})\\w.*\\(.*").matcher(lines[from]);
            if (opens.matches() && !lines[from].endsWith(";")) {
                int to = from;
                while (!lines[to].equals(opens.group(1) + "}")) {
                    to++;
                }
                Checks.due("sixty lines at most: " + lines[from], to - from < 60, true);
            }
        }
    }

    /** Rules 1, 2, 5 and 11. */
    private static void classRules(Class<?> type) {
        int fields = 0;
        for (Field field : type.getDeclaredFields()) {
            boolean constant = Modifier.isStatic(field.getModifiers());
            fields += constant ? 0 : 1;
            Checks.due(field + " is final", constant && !Modifier.isFinal(field.getModifiers()), false);
            Checks.due(field + " is a number", constant && field.getType() != int.class, false);
        }
        Checks.due(type + " has at most twenty fields", fields <= 20, true);
        for (Method method : type.getDeclaredMethods()) {
            Checks.due(method + " has at most seven parameters", method.getParameterCount() <= 7, true);
        }
        if (type != CellAreas.class) {
            int is = type.getModifiers();
            Checks.due(type + " is static and not open",
                    Modifier.isStatic(is) && !Modifier.isPublic(is) && !Modifier.isProtected(is), true);
        }
    }
}
