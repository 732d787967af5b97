import java.lang.reflect.Method;
import java.lang.reflect.Modifier;
import java.util.HashMap;
import java.util.Map;

/** Calls of the class by the name of the method, for tests that read them from a text. */
final class Asked {
    private static final Map<String, Method> METHODS = methods();

    private Asked() {
    }

    private static Map<String, Method> methods() {
        Map<String, Method> found = new HashMap<>();
        for (Method method : OneTriangle.class.getDeclaredMethods()) {
            if (Modifier.isPublic(method.getModifiers())) {
                found.put(method.getName(), method);
            }
        }
        return found;
    }

    static int methodCount() {
        return METHODS.size();
    }

    static boolean isMethod(String name) {
        return METHODS.containsKey(name);
    }

    static long answer(OneTriangle x, String name, String[] numbers) throws Exception {
        Object[] arguments = new Object[numbers.length];
        for (int i = 0; i < arguments.length; i++) {
            arguments[i] = Integer.parseInt(numbers[i].trim());
        }
        return ((Number) METHODS.get(name).invoke(x, arguments)).longValue();
    }
}
