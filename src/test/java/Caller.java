import java.lang.reflect.InvocationTargetException;
import java.lang.reflect.Method;
import java.util.HashMap;
import java.util.Map;

/** Calls a house's method by its name, so that the class and the plain model can be asked the same. */
final class Caller {
    static final String DONE = "done";
    /** The document promises nothing behind this many calls, so that no test may rest on more. */
    static final int MOST_CALLS = 512;

    private final Object house;
    private int calls = 0;
    private final Map<String, Method> methods = new HashMap<>();

    Caller(Object house) {
        this.house = house;
        for (Method method : house.getClass().getDeclaredMethods()) {
            if (!method.isSynthetic() && !java.lang.reflect.Modifier.isPrivate(method.getModifiers())) {
                method.setAccessible(true);
                methods.put(method.getName(), method);
            }
        }
    }

    /** A boolean argument is told as 0 or 1. The answer is a text: a number, true, false, done or throws.X. */
    String answer(String name, int... arguments) {
        calls++;
        if (calls > MOST_CALLS) {
            throw new IllegalStateException("the test makes more calls than an object is for");
        }
        Method method = methods.get(name);
        Class<?>[] types = method.getParameterTypes();
        if (types.length != arguments.length) {
            throw new IllegalStateException(name + " takes " + types.length + " arguments");
        }
        Object[] passed = new Object[types.length];
        for (int i = 0; i < types.length; i++) {
            passed[i] = types[i] == boolean.class ? (Object) (arguments[i] != 0) : (Object) arguments[i];
        }
        try {
            Object answer = method.invoke(house, passed);
            return answer == null ? DONE : answer.toString();
        } catch (InvocationTargetException e) {
            return "throws." + e.getCause().getClass().getSimpleName();
        } catch (IllegalAccessException e) {
            throw new IllegalStateException(e);
        }
    }

    int callsLeft() {
        return MOST_CALLS - calls;
    }

    /** The call as a text: name(1, 2). */
    String answerText(String call) {
        int open = call.indexOf('(');
        String inside = call.substring(open + 1, call.indexOf(')')).trim();
        String[] words = inside.isEmpty() ? new String[0] : inside.split("\\s*,\\s*");
        int[] arguments = new int[words.length];
        for (int i = 0; i < words.length; i++) {
            arguments[i] = words[i].equals("true") ? 1 : words[i].equals("false") ? 0 : Integer.parseInt(words[i]);
        }
        return answer(call.substring(0, open).trim(), arguments);
    }
}
