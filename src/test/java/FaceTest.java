import java.lang.reflect.Constructor;
import java.lang.reflect.Field;
import java.lang.reflect.Method;
import java.lang.reflect.Modifier;
import java.util.Set;
import java.util.TreeSet;

/** The class has just the document's face: its constants, its constructor and its methods, and no other one. */
public final class FaceTest {
    private static final String AREA = "IndexOutOfBoundsException";
    private static final String BOTH = "IllegalArgumentException,IndexOutOfBoundsException";
    private static int wrong = 0;

    public static void main(String[] args) {
        due("the class is public and final",
                Modifier.isPublic(CellAreas.class.getModifiers()) && Modifier.isFinal(CellAreas.class.getModifiers()));
        due("NONE is -1", CellAreas.NONE == -1);
        due("FULL is -2", CellAreas.FULL == -2);
        sameSets("fields", fieldsDue(), openFields());
        sameSets("constructors", Set.of("()"), openConstructors());
        sameSets("methods", methodsDue(), openMethods());
        noPrivateNamesake();
        System.out.println(wrong == 0 ? "the face is as due" : wrong + " answers are not as due");
        if (wrong != 0) {
            System.exit(1);
        }
    }

    private static Set<String> fieldsDue() {
        return Set.of("int NONE", "int FULL");
    }

    private static Set<String> methodsDue() {
        return Set.of("void box 5 " + BOTH, "int clear 1 " + AREA, "int combine 4 " + BOTH, "int invert 2 " + AREA,
                "int move 4 " + BOTH, "int mirror 3 " + BOTH, "int grow 6 " + BOTH, "int shrink 6 " + BOTH,
                "int bands 1 " + AREA, "int band 3 " + AREA, "int stretch 4 " + AREA, "boolean has 3 " + AREA,
                "int count 2 " + BOTH, "int loop 3 " + BOTH, "int corner 4 " + BOTH, "int inner 3 " + BOTH,
                "int partOf 3 " + AREA, "int take 3 " + BOTH, "int largest 2 " + AREA, "boolean within 2 " + AREA,
                "int distance 2 " + AREA, "int check 1 " + AREA);
    }

    private static Set<String> openFields() {
        Set<String> open = new TreeSet<>();
        for (Field field : CellAreas.class.getDeclaredFields()) {
            if (!Modifier.isPrivate(field.getModifiers())) {
                open.add(field.getType() + " " + field.getName());
            }
        }
        return open;
    }

    private static Set<String> openConstructors() {
        Set<String> open = new TreeSet<>();
        for (Constructor<?> constructor : CellAreas.class.getDeclaredConstructors()) {
            if (!Modifier.isPrivate(constructor.getModifiers())) {
                open.add(constructor.getParameterCount() == 0 ? "()" : constructor.toString());
            }
        }
        return open;
    }

    private static Set<String> openMethods() {
        Set<String> open = new TreeSet<>();
        for (Method method : CellAreas.class.getDeclaredMethods()) {
            if (!Modifier.isPrivate(method.getModifiers())) {
                open.add(method.getReturnType() + " " + method.getName() + " " + method.getParameterCount() + " "
                        + told(method));
            }
            for (Class<?> type : method.getParameterTypes()) {
                due(method + " is public and takes ints", Modifier.isPrivate(method.getModifiers())
                        || type == int.class && Modifier.isPublic(method.getModifiers()));
            }
        }
        return open;
    }

    private static String told(Method method) {
        Set<String> names = new TreeSet<>();
        for (Class<?> type : method.getExceptionTypes()) {
            names.add(type.getSimpleName());
        }
        return String.join(",", names);
    }

    private static void noPrivateNamesake() {
        for (Class<?> type : CellAreas.class.getDeclaredClasses()) {
            namesakes(type);
        }
        namesakes(CellAreas.class);
    }

    private static void namesakes(Class<?> type) {
        for (Method method : type.getDeclaredMethods()) {
            for (Method open : CellAreas.class.getMethods()) {
                boolean same = method.getName().equals(open.getName());
                due(method + " has a name of its own", !same || Modifier.isPublic(method.getModifiers()));
            }
        }
    }

    private static void sameSets(String what, Set<String> due, Set<String> got) {
        due(what + " are " + got + ", due are " + new TreeSet<>(due), due.equals(got));
    }

    private static void due(String what, boolean holds) {
        if (!holds) {
            wrong++;
            System.out.println("not so: " + what);
        }
    }
}
