import java.lang.reflect.InvocationTargetException;
import java.lang.reflect.Method;
import java.util.Arrays;
import java.util.HashMap;
import java.util.Map;

/** The calls of BoundWright, or of Model, by their names: so that one list of calls can be asked of both. */
final class Face {
    private final Object asked;
    private final Map<String, Method> calls = new HashMap<>();

    Face(Object asked) {
        this.asked = asked;
        for (Method each : asked.getClass().getDeclaredMethods()) {
            if (!each.isSynthetic()) {
                calls.put(key(each.getName(), each.getParameterTypes()), each);
            }
        }
    }

    private static String key(String name, Class<?>[] types) {
        return name + Arrays.toString(types);
    }

    /** The answer as a text; of a call that throws, the simple name of the exception. */
    String ask(String name, Object... arguments) {
        Class<?>[] types = new Class<?>[arguments.length];
        for (int k = 0; k < types.length; k++) {
            types[k] = arguments[k] instanceof Boolean ? boolean.class : int.class;
        }
        try {
            return String.valueOf(calls.get(key(name, types)).invoke(asked, arguments));
        } catch (InvocationTargetException thrown) {
            return thrown.getCause().getClass().getSimpleName();
        } catch (IllegalAccessException hidden) {
            throw new IllegalStateException(hidden);
        }
    }

    int number(String name, Object... arguments) {
        return Integer.parseInt(ask(name, arguments));
    }
}
