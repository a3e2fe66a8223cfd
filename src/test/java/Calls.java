import java.lang.reflect.InvocationTargetException;
import java.lang.reflect.Method;
import java.lang.reflect.Modifier;
import java.util.Map;
import java.util.TreeMap;

/** Calls of a face by their names, with answers as texts: 7, 'a', true, 0.5, or !IllegalStateException. */
final class Calls {
    private Calls() {
    }

    static Map<String, Method> of(Class<?> type) {
        Map<String, Method> methods = new TreeMap<>();
        for (Method method : type.getDeclaredMethods()) {
            if (Modifier.isPublic(method.getModifiers())) {
                methods.put(method.getName(), method);
            }
        }
        return methods;
    }

    static String answer(Object target, Method method, Object[] arguments) {
        try {
            return text(method.invoke(target, arguments));
        } catch (InvocationTargetException e) {
            // The exact class: what the machine throws is often of a class below the one that is due.
            return "!" + e.getCause().getClass().getSimpleName();
        } catch (IllegalAccessException e) {
            throw new IllegalStateException(e);
        }
    }

    static String text(Object value) {
        return value instanceof Character ? "'" + value + "'" : String.valueOf(value);
    }
}
