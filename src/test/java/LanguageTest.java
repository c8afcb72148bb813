import java.io.IOException;
import java.lang.reflect.Array;
import java.lang.reflect.Constructor;
import java.lang.reflect.Executable;
import java.lang.reflect.Field;
import java.lang.reflect.Method;
import java.lang.reflect.Modifier;
import java.util.Collections;
import java.util.IdentityHashMap;
import java.util.List;
import java.util.Set;
import java.util.regex.Matcher;
import java.util.regex.Pattern;

/** Rules of LANGUAGE.md that a look at the source and at the compiled class can tell. */
public final class LanguageTest {
    private static final int MOST_CLASSES = 12;
    private static final int MOST_FIELDS = 20;
    private static final int MOST_ARGUMENTS = 7;
    private static final int MOST_LINES = 60;

    private static final String[] NOT_ALLOWED = {
        "import", "package", "try", "catch", "finally", "synchronized", "assert", "equals", "hashCode", "toString",
        "double", "float", "instanceof", "protected", "volatile", "native", "goto", "Object", "Thread", "Random"};
    private static final String[] NOT_ALLOWED_SIGNS = {
        "->", "::", "Exact(", "static {", "while (true)", "for (;;)", "@"};
    private static final Set<String> LIBRARY = Set.of("Integer.bitCount", "Integer.numberOfTrailingZeros",
        "Long.bitCount", "Long.numberOfTrailingZeros", "Math.min", "System.arraycopy");
    private static final Set<String> THROWN = Set.of("IndexOutOfBoundsException", "IllegalArgumentException");
    private static final Set<Class<?>> CONSTANTS = Set.of(int.class, long.class, boolean.class, char.class,
        String.class, int[].class, long[].class, char[].class, byte[].class);
    private static final Set<Class<?>> NUMBERS = Set.of(int.class, long.class, short.class, byte.class, char.class,
        boolean.class);

    /** Of all that one run may make, a small part: some rows are made anew when they are lengthened. */
    private static final int MOST_KEPT_AT_FIRST = 2_000;
    private static final int MOST_KEPT = 200_000;
    private static final int MOST_OBJECTS = 100;

    private static final Check CHECK = new Check();

    private static int kept;

    public static void main(String[] args) throws IOException {
        List<String> lines = Texts.source();
        String code = codeOf(lines);
        words(code);
        library(code);
        thrown(code);
        lengths(lines);
        Class<?>[] classes = DiagramHouse.class.getNestMembers();
        CHECK.due("rule 11: more than " + MOST_CLASSES + " classes", classes.length > MOST_CLASSES, false);
        for (Class<?> one : classes) {
            CHECK.due("rule 2: " + one + " has no name", one.isAnonymousClass() || one.isLocalClass(), false);
            fields(one);
            calls(one);
        }
        room();
        CHECK.end();
    }

    /** The source without comments and texts. */
    private static String codeOf(List<String> lines) {
        String source = String.join("\n", lines);
        CHECK.due("rule 3: characters above 255", source.chars().anyMatch(c -> c > 255), false);
        return source.replaceAll("(?s)/\\*.*?\\*/", "").replaceAll("//.*", "").replaceAll("\"[^\"\n]*\"", "\"\"");
    }

    private static void words(String code) {
        for (String word : NOT_ALLOWED) {
            boolean there = Pattern.compile("\\b" + word + "\\b").matcher(code).find();
            CHECK.due("the source has the word " + word, there, false);
        }
        for (String sign : NOT_ALLOWED_SIGNS) {
            CHECK.due("the source has " + sign, code.contains(sign), false);
        }
    }

    private static void library(String code) {
        Matcher used = Pattern.compile("\\b(Integer|Long|Math|System|Arrays|String|Character)\\.\\w+").matcher(code);
        while (used.find()) {
            CHECK.due("rule 4: " + used.group(), LIBRARY.contains(used.group()), true);
        }
    }

    private static void thrown(String code) {
        Matcher thrown = Pattern.compile("\\bthrow\\b(?: new (\\w+)\\(\"\"\\);)?").matcher(code);
        int count = 0;
        while (thrown.find()) {
            CHECK.due("rule 6: '" + thrown.group() + "' is one of the document's",
                thrown.group(1) != null && THROWN.contains(thrown.group(1)), true);
            count++;
        }
        CHECK.due("rule 6: there are throws", count > 0, true);
    }

    /** A method or constructor is what has a bracket for arguments and stands directly in a class. */
    private static void lengths(List<String> lines) {
        Pattern head = Pattern.compile("( {4}| {8})\\w.*\\(.*[^;]");
        int found = 0;
        for (int i = 0; i < lines.size(); i++) {
            Matcher matcher = head.matcher(lines.get(i));
            if (matcher.matches() && !lines.get(i).contains("=")) {
                int end = i;
                while (end < lines.size() && !lines.get(end).equals(matcher.group(1) + "}")) {
                    end++;
                }
                CHECK.due("rule 11: too many lines: " + lines.get(i).trim(), end - i >= MOST_LINES, false);
                found++;
                i = end;
            }
        }
        CHECK.due("rule 11: methods were found", found > 50, true);
    }

    private static void fields(Class<?> one) {
        int own = 0;
        for (Field field : one.getDeclaredFields()) {
            if (Modifier.isStatic(field.getModifiers())) {
                CHECK.due("rule 5: " + field + " is final", Modifier.isFinal(field.getModifiers()), true);
                CHECK.due("rule 5: " + field + " is a constant", CONSTANTS.contains(field.getType()), true);
            } else {
                own++;
                CHECK.due("rule 3: " + field, isAllowed(field.getType()), true);
            }
        }
        CHECK.due("rule 11: too many fields in " + one, own > MOST_FIELDS, false);
    }

    private static void calls(Class<?> one) {
        for (Method method : one.getDeclaredMethods()) {
            arguments(method);
            boolean nothing = method.getReturnType() == void.class;
            CHECK.due("rule 3: answer of " + method, nothing || isAllowed(method.getReturnType()), true);
        }
        for (Constructor<?> constructor : one.getDeclaredConstructors()) {
            arguments(constructor);
        }
    }

    private static void arguments(Executable call) {
        CHECK.due("rule 11: too many arguments: " + call, call.getParameterCount() > MOST_ARGUMENTS, false);
        for (Class<?> type : call.getParameterTypes()) {
            CHECK.due("rule 3: argument of " + call, isAllowed(type), true);
        }
    }

    /** Numbers and own classes, rows of these, and rows of rows of numbers. */
    private static boolean isAllowed(Class<?> type) {
        if (!type.isArray()) {
            return NUMBERS.contains(type) || type.getName().startsWith("DiagramHouse");
        }
        Class<?> part = type.getComponentType();
        return part.isArray() ? NUMBERS.contains(part.getComponentType()) : isAllowed(part);
    }

    /** Rule 12: a new object, and one that has had the largest diagrams in several orders and was sifted. */
    private static void room() {
        DiagramHouse house = new DiagramHouse();
        lookAt("a new object", house, MOST_KEPT_AT_FIRST);
        Caller caller = new Caller(house);
        for (String row : Rows.largestOfAll(Rows.FIRST_ORDER)) {
            caller.answerText(row);
        }
        for (int turn = 0; caller.callsLeft() > 10; turn++) {
            caller.answer(turn % 2 == 0 ? "siftAll" : "size", turn % 2 == 0 ? new int[0] : new int[] {-1});
            caller.answer("move", turn % 10, 9);
            caller.answer("move", turn * 7 % 10, 0);
        }
        lookAt("the largest object", house, MOST_KEPT);
    }

    private static void lookAt(String name, DiagramHouse house, int most) {
        kept = 0;
        Set<Object> seen = Collections.newSetFromMap(new IdentityHashMap<>());
        count(house, seen);
        CHECK.due("rule 12: " + name + " keeps " + kept + " fields and elements", kept > most, false);
        CHECK.due("rule 12: " + name + " has " + seen.size() + " objects", seen.size() > MOST_OBJECTS, false);
    }

    private static void count(Object one, Set<Object> seen) {
        if (one == null || !seen.add(one)) {
            return;
        }
        if (one.getClass().isArray()) {
            int length = Array.getLength(one);
            kept += length;
            boolean ofNumbers = one.getClass().getComponentType().isPrimitive();
            for (int i = 0; i < length && !ofNumbers; i++) {
                count(Array.get(one, i), seen);
            }
            return;
        }
        for (Field field : one.getClass().getDeclaredFields()) {
            if (!Modifier.isStatic(field.getModifiers())) {
                kept++;
                if (!field.getType().isPrimitive()) {
                    count(valueOf(field, one), seen);
                }
            }
        }
    }

    private static Object valueOf(Field field, Object one) {
        try {
            field.setAccessible(true);
            return field.get(one);
        } catch (IllegalAccessException e) {
            throw new IllegalStateException(e);
        }
    }
}
