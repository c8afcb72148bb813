import java.io.IOException;
import java.lang.reflect.Constructor;
import java.lang.reflect.Field;
import java.lang.reflect.Method;
import java.lang.reflect.Modifier;
import java.util.Arrays;
import java.util.List;
import java.util.StringJoiner;
import java.util.TreeSet;

/** The class has the face of the document's code block, and nothing else that can be seen. */
public final class FaceTest {
    private static final int METHODS = 20;
    private static final Check CHECK = new Check();

    public static void main(String[] args) throws IOException {
        List<String> methods = Texts.methods();
        CHECK.due("the methods of the document", methods.size(), METHODS);
        CHECK.due("the class's modifiers", Modifier.toString(DiagramHouse.class.getModifiers()), "public final");
        CHECK.due("what the class is made from", DiagramHouse.class.getSuperclass(), Object.class);
        CHECK.due("its interfaces", DiagramHouse.class.getInterfaces().length, 0);
        methods(methods);
        fields();
        constructors();
        classesInside(methods);
        written();
        CHECK.end();
    }

    /** What the class can be asked by reflection has no names of arguments. */
    private static String withoutNames(String method) {
        return method.replaceAll("(int|boolean) \\w+([,)])", "$1$2");
    }

    private static void methods(List<String> due) {
        TreeSet<String> want = new TreeSet<>();
        for (String method : due) {
            want.add(withoutNames(method));
        }
        TreeSet<String> seen = new TreeSet<>();
        for (Method method : DiagramHouse.class.getDeclaredMethods()) {
            String name = method.getName();
            if (Modifier.isPrivate(method.getModifiers())) {
                CHECK.due(name + " is private with a public name", isPublicName(due, name), false);
            } else {
                CHECK.due(name + "'s modifiers", Modifier.toString(method.getModifiers()), "public");
                String types = Arrays.toString(method.getParameterTypes()).replace("[", "(").replace("]", ")");
                seen.add(method.getReturnType() + " " + name + types + exceptions(method));
            }
        }
        CHECK.due("the methods", seen, want);
    }

    private static boolean isPublicName(List<String> methods, String name) {
        return methods.stream().anyMatch(method -> method.contains(" " + name + "("));
    }

    private static String exceptions(Method method) {
        StringJoiner names = new StringJoiner(", ", " throws ", "").setEmptyValue("");
        for (Class<?> exception : method.getExceptionTypes()) {
            names.add(exception.getSimpleName());
        }
        return names.toString();
    }

    private static void fields() {
        for (Field field : DiagramHouse.class.getDeclaredFields()) {
            boolean isNone = field.getName().equals("NONE");
            CHECK.due(field.getName() + " is private", Modifier.isPrivate(field.getModifiers()), !isNone);
            if (isNone) {
                CHECK.due("NONE's modifiers", Modifier.toString(field.getModifiers()), "public static final");
                CHECK.due("NONE's type", field.getType(), int.class);
            }
        }
        CHECK.due("the public constants", DiagramHouse.class.getFields().length, 1);
        CHECK.due("NONE", DiagramHouse.NONE, -1);
    }

    private static void constructors() {
        Constructor<?>[] constructors = DiagramHouse.class.getDeclaredConstructors();
        CHECK.due("the constructors", constructors.length, 1);
        CHECK.due("the constructor", constructors[0].toString(), "public DiagramHouse()");
    }

    private static void classesInside(List<String> methods) {
        for (Class<?> inside : DiagramHouse.class.getDeclaredClasses()) {
            int modifiers = inside.getModifiers();
            CHECK.due(inside + " is static", Modifier.isStatic(modifiers), true);
            CHECK.due(inside + " can be seen outside", Modifier.isPublic(modifiers) || Modifier.isProtected(modifiers), false);
            for (Method method : inside.getDeclaredMethods()) {
                CHECK.due(method + " has a public name", isPublicName(methods, method.getName()), false);
            }
        }
    }

    /** Word for word, the names of the arguments and the order of the exceptions too. */
    private static void written() throws IOException {
        String source = String.join(" ", Texts.source()).replaceAll("\\s+", " ");
        for (String line : Texts.face()) {
            boolean hasBody = line.endsWith(");") || line.contains(" throws ");
            String want = hasBody ? line.substring(0, line.length() - 1) + " {" : line;
            CHECK.due("the source has '" + want + "'", source.contains(want), true);
        }
        CHECK.due("what is public in the source", source.split("\\bpublic\\b").length - 1, Texts.face().size());
    }
}
