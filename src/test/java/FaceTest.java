import java.io.IOException;
import java.lang.reflect.Constructor;
import java.lang.reflect.Field;
import java.lang.reflect.Method;
import java.lang.reflect.Modifier;
import java.nio.file.Files;
import java.nio.file.Path;
import java.util.Set;
import java.util.TreeSet;

/** The class has just the document's face: its constants, its constructor and its methods, and no other one. */
public final class FaceTest {
    private static final String AREA = "IndexOutOfBoundsException";
    private static final String BOTH = "IllegalArgumentException,IndexOutOfBoundsException";
    /** As the document writes it, where the parameters have names too. */
    private static final String WRITTEN = """
            public final class CellAreas
            public static final int NONE = -1
            public static final int FULL = -2
            public CellAreas()
            public void box(int a, int left, int low, int right, int high) throws A, B
            public int clear(int a) throws A
            public int combine(int to, int a, int b, int how) throws A, B
            public int invert(int to, int a) throws A
            public int move(int to, int a, int right, int up) throws A, B
            public int mirror(int to, int a, int way) throws A, B
            public int grow(int to, int a, int left, int right, int down, int up) throws A, B
            public int shrink(int to, int a, int left, int right, int down, int up) throws A, B
            public int bands(int a) throws A
            public int band(int a, int i, int what) throws A
            public int stretch(int a, int i, int k, int what) throws A
            public boolean has(int a, int x, int y) throws A
            public int count(int a, int what) throws A, B
            public int loop(int a, int i, int what) throws A, B
            public int corner(int a, int i, int k, int what) throws A, B
            public int inner(int to, int a, int i) throws A, B
            public int partOf(int a, int x, int y) throws A
            public int take(int to, int a, int k) throws A, B
            public int largest(int a, int what) throws A
            public boolean within(int a, int b) throws A
            public int distance(int a, int b) throws A
            public int check(int a) throws A
            """.replace("A, B", "IndexOutOfBoundsException, IllegalArgumentException")
            .replace("throws A\n", "throws IndexOutOfBoundsException\n");
    private static int wrong = 0;

    public static void main(String[] args) throws IOException {
        due("the class is public and final",
                Modifier.isPublic(CellAreas.class.getModifiers()) && Modifier.isFinal(CellAreas.class.getModifiers()));
        due("NONE is -1", CellAreas.NONE == -1);
        due("FULL is -2", CellAreas.FULL == -2);
        sameSets("fields", fieldsDue(), openFields());
        sameSets("constructors", Set.of("()"), openConstructors());
        sameSets("methods", methodsDue(), openMethods());
        noPrivateNamesake();
        isWritten();
        System.out.println(wrong == 0 ? "the face is as due" : wrong + " answers are not as due");
        if (wrong != 0) {
            System.exit(1);
        }
    }

    private static Set<String> fieldsDue() {
        return Set.of("int NONE", "int FULL");
    }

    private static Set<String> methodsDue() {
        return Set.of("void box 5 " + BOTH, "int clear 1 " + AREA, "int combine 4 " + BOTH, "int invert 2 " + AREA,
                "int move 4 " + BOTH, "int mirror 3 " + BOTH, "int grow 6 " + BOTH, "int shrink 6 " + BOTH,
                "int bands 1 " + AREA, "int band 3 " + AREA, "int stretch 4 " + AREA, "boolean has 3 " + AREA,
                "int count 2 " + BOTH, "int loop 3 " + BOTH, "int corner 4 " + BOTH, "int inner 3 " + BOTH,
                "int partOf 3 " + AREA, "int take 3 " + BOTH, "int largest 2 " + AREA, "boolean within 2 " + AREA,
                "int distance 2 " + AREA, "int check 1 " + AREA);
    }

    private static Set<String> openFields() {
        Set<String> open = new TreeSet<>();
        for (Field field : CellAreas.class.getDeclaredFields()) {
            if (!Modifier.isPrivate(field.getModifiers())) {
                open.add(field.getType() + " " + field.getName());
            }
        }
        return open;
    }

    private static Set<String> openConstructors() {
        Set<String> open = new TreeSet<>();
        for (Constructor<?> constructor : CellAreas.class.getDeclaredConstructors()) {
            if (!Modifier.isPrivate(constructor.getModifiers())) {
                open.add(constructor.getParameterCount() == 0 ? "()" : constructor.toString());
            }
        }
        return open;
    }

    private static Set<String> openMethods() {
        Set<String> open = new TreeSet<>();
        for (Method method : CellAreas.class.getDeclaredMethods()) {
            if (!Modifier.isPrivate(method.getModifiers())) {
                open.add(method.getReturnType() + " " + method.getName() + " " + method.getParameterCount() + " "
                        + told(method));
            }
            for (Class<?> type : method.getParameterTypes()) {
                due(method + " is public and takes ints", Modifier.isPrivate(method.getModifiers())
                        || type == int.class && Modifier.isPublic(method.getModifiers()));
            }
        }
        return open;
    }

    private static String told(Method method) {
        Set<String> names = new TreeSet<>();
        for (Class<?> type : method.getExceptionTypes()) {
            names.add(type.getSimpleName());
        }
        return String.join(",", names);
    }

    private static void noPrivateNamesake() {
        for (Class<?> type : CellAreas.class.getDeclaredClasses()) {
            namesakes(type);
        }
        namesakes(CellAreas.class);
    }

    private static void namesakes(Class<?> type) {
        for (Method method : type.getDeclaredMethods()) {
            for (Method open : CellAreas.class.getMethods()) {
                boolean same = method.getName().equals(open.getName());
                due(method + " has a name of its own", !same || Modifier.isPublic(method.getModifiers()));
            }
        }
    }

    /** What is public in the source, in its order, is what the document writes. */
    private static void isWritten() throws IOException {
        StringBuilder found = new StringBuilder();
        String source = Files.readString(Path.of("src/main/java/CellAreas.java")).replaceAll("\\s+", " ");
        for (int from = source.indexOf("public "); from >= 0; from = source.indexOf("public ", from + 1)) {
            int to = from;
            while (source.charAt(to) != '{' && source.charAt(to) != ';') {
                to++;
            }
            found.append(source.substring(from, to).trim()).append('\n');
        }
        due("the source has\n" + found + "due is\n" + WRITTEN, found.toString().equals(WRITTEN));
    }

    private static void sameSets(String what, Set<String> due, Set<String> got) {
        due(what + " are " + got + ", due are " + new TreeSet<>(due), due.equals(got));
    }

    private static void due(String what, boolean holds) {
        if (!holds) {
            wrong++;
            System.out.println("not so: " + what);
        }
    }
}
