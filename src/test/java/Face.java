import java.lang.reflect.InvocationTargetException;
import java.lang.reflect.Method;
import java.util.HashMap;
import java.util.Map;

/** Calls by their names, so that a run of them can be kept and played again. */
final class Face {
    private static final Map<String, Method> METHODS = new HashMap<>();

    static {
        for (Method method : FootLights.class.getMethods()) {
            if (method.getDeclaringClass() == FootLights.class) {
                METHODS.put(method.getName(), method);
            }
        }
    }

    private Face() {
    }

    static int call(FootLights x, String name, int... values) {
        Object[] arguments = new Object[values.length];
        for (int i = 0; i < values.length; i++) {
            arguments[i] = values[i];
        }
        try {
            return (int) METHODS.get(name).invoke(x, arguments);
        } catch (IllegalAccessException | InvocationTargetException e) {
            throw new IllegalStateException(told(name, values), e);
        }
    }

    static String told(String name, int... values) {
        StringBuilder told = new StringBuilder(name).append('(');
        for (int i = 0; i < values.length; i++) {
            told.append(i > 0 ? ", " : "").append(values[i]);
        }
        return told.append(')').toString();
    }
}
