import java.lang.reflect.Method;
import java.util.Arrays;
import java.util.HashMap;
import java.util.Map;

/** Calls of the class by name, so that tests can keep them in tables and tell them. */
final class Calls {
    private static final Map<String, Method> METHODS = new HashMap<>();

    static {
        for (Method method : GlossHouse.class.getDeclaredMethods()) {
            METHODS.put(method.getName(), method);
        }
    }

    private Calls() {
    }

    static int ask(GlossHouse x, String name, int... arguments) {
        try {
            return (Integer) METHODS.get(name).invoke(x, Arrays.stream(arguments).boxed().toArray());
        } catch (ReflectiveOperationException e) {
            throw new IllegalStateException(told(name, arguments), e);
        }
    }

    static String told(String name, int... arguments) {
        return name + Arrays.toString(arguments).replace('[', '(').replace(']', ')');
    }
}
