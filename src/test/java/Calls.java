import java.lang.reflect.InvocationTargetException;
import java.lang.reflect.Method;
import java.lang.reflect.Modifier;
import java.util.Arrays;
import java.util.Map;
import java.util.TreeMap;

/** The calls of a class, ToolShed's or Model's, by their names. */
final class Calls {
    private final Map<String, Method> all = new TreeMap<>();

    Calls(Class<?> type) {
        for (Method method : type.getDeclaredMethods()) {
            if (Modifier.isPublic(method.getModifiers())) {
                all.put(method.getName(), method);
            }
        }
    }

    Iterable<String> names() {
        return all.keySet();
    }

    int number() {
        return all.size();
    }

    int answer(Object object, String name, int... arguments) {
        try {
            return (Integer) all.get(name).invoke(object, Arrays.stream(arguments).boxed().toArray());
        } catch (IllegalAccessException | InvocationTargetException e) {
            throw new IllegalStateException(told(name, arguments), e);
        }
    }

    static String told(String name, int... arguments) {
        String inside = Arrays.toString(arguments);
        return name + "(" + inside.substring(1, inside.length() - 1) + ")";
    }
}
