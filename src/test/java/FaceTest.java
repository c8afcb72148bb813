import java.io.IOException;
import java.lang.reflect.Constructor;
import java.lang.reflect.Field;
import java.lang.reflect.Method;
import java.lang.reflect.Modifier;
import java.nio.file.Files;
import java.nio.file.Path;
import java.util.Arrays;
import java.util.StringJoiner;
import java.util.TreeSet;

/** The class has the document's face and nothing else that can be seen, and keeps to what a text search can tell. */
public final class FaceTest {
    private static final String INDEX = " throws IndexOutOfBoundsException";
    private static final String ARGUMENT = " throws IllegalArgumentException";
    private static final String BOTH = " throws IndexOutOfBoundsException, IllegalArgumentException";

    private static final String[] METHODS = {
        "void constant(int, int)" + BOTH, "void input(int, int)" + BOTH, "void make(int, int, int, int)" + BOTH,
        "void choose(int, int, int, int)" + INDEX, "void fix(int, int, int, int)" + BOTH,
        "void compose(int, int, int, int)" + BOTH, "void quantify(int, int, int, boolean)" + BOTH,
        "void meet(int, int, int, int)" + BOTH, "int move(int, int)" + ARGUMENT, "int sift(int)" + ARGUMENT,
        "int siftAll()", "int order(int)" + INDEX, "int size(int)" + INDEX, "int count(int)" + INDEX,
        "boolean value(int, int)" + BOTH, "int least(int)" + INDEX, "int support(int)" + INDEX,
        "boolean alike(int, int)" + INDEX, "int asked(int, int, int)" + BOTH, "int questions(int)" + ARGUMENT};
    private static final String[] NOT_ALLOWED = {
        "import ", "package ", "catch", "finally", "synchronized", "assert ", "->", "::", "hashCode", "Exact("};

    private static final Check CHECK = new Check();

    public static void main(String[] args) throws IOException {
        CHECK.due("the class's modifiers", Modifier.toString(DiagramHouse.class.getModifiers()), "public final");
        methods();
        others();
        source(Path.of(System.getProperty("project.root", "."), "src", "main", "java", "DiagramHouse.java"));
        CHECK.end();
    }

    private static void methods() {
        TreeSet<String> seen = new TreeSet<>();
        TreeSet<String> names = new TreeSet<>();
        for (Method method : DiagramHouse.class.getDeclaredMethods()) {
            if (Modifier.isPrivate(method.getModifiers())) {
                continue;
            }
            CHECK.due(method.getName() + "'s modifiers", Modifier.toString(method.getModifiers()), "public");
            String types = Arrays.toString(method.getParameterTypes()).replace("[", "(").replace("]", ")");
            seen.add(method.getReturnType() + " " + method.getName() + types + exceptions(method));
            names.add(method.getName());
        }
        CHECK.due("the methods", seen, new TreeSet<>(Arrays.asList(METHODS)));
        for (Method method : DiagramHouse.class.getDeclaredMethods()) {
            if (Modifier.isPrivate(method.getModifiers())) {
                CHECK.due(method.getName() + " is private with a public name", names.contains(method.getName()), false);
            }
        }
    }

    private static String exceptions(Method method) {
        StringJoiner names = new StringJoiner(", ", " throws ", "").setEmptyValue("");
        for (Class<?> exception : method.getExceptionTypes()) {
            names.add(exception.getSimpleName());
        }
        return names.toString();
    }

    private static void others() {
        for (Field field : DiagramHouse.class.getDeclaredFields()) {
            String want = field.getName().equals("NONE") ? "public static final"
                : Modifier.isStatic(field.getModifiers()) ? "private static final" : null;
            if (want != null) {
                CHECK.due(field.getName() + "'s modifiers", Modifier.toString(field.getModifiers()), want);
            } else {
                CHECK.due(field.getName() + " is private", Modifier.isPrivate(field.getModifiers()), true);
            }
        }
        Constructor<?>[] constructors = DiagramHouse.class.getDeclaredConstructors();
        CHECK.due("the constructors", constructors.length, 1);
        CHECK.due("the constructor", constructors[0].toString(), "public DiagramHouse()");
        for (Class<?> inside : DiagramHouse.class.getDeclaredClasses()) {
            CHECK.due(inside.getName() + " is static", Modifier.isStatic(inside.getModifiers()), true);
            for (Method method : inside.getDeclaredMethods()) {
                boolean publicName = String.join(" ", METHODS).contains(" " + method.getName() + "(");
                CHECK.due(inside.getName() + "." + method.getName() + " has a public name", publicName, false);
            }
        }
    }

    private static void source(Path file) throws IOException {
        String text = Files.readString(file);
        for (String word : NOT_ALLOWED) {
            CHECK.due("the source has '" + word + "'", text.contains(word), false);
        }
    }
}
