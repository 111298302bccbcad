import java.lang.reflect.InvocationTargetException;
import java.lang.reflect.Method;
import java.lang.reflect.Modifier;
import java.util.HashMap;
import java.util.Map;

/** A call told as a text, such as "parent(1, 0)", that can be made on a board or on the model. */
final class Call {
    private static final Map<String, Call> READ = new HashMap<>();
    private static final Map<Class<?>, Map<String, Method>> METHODS = new HashMap<>();

    private final String text;
    private final String name;
    private final Object[] given;

    private Call(String text) {
        this.text = text;
        int open = text.indexOf('(');
        name = text.substring(0, open);
        String inner = text.substring(open + 1, text.length() - 1);
        String[] parts = inner.isEmpty() ? new String[0] : inner.split(", ");
        given = new Object[parts.length];
        for (int i = 0; i < parts.length; i++) {
            given[i] = argument(parts[i]);
        }
    }

    static Call read(String text) {
        return READ.computeIfAbsent(text, Call::new);
    }

    /** What the target answers; a boolean counts 1 or 0. */
    long on(Object target) {
        Method method = METHODS.computeIfAbsent(target.getClass(), Call::methodsOf).get(name);
        try {
            Object answer = method.invoke(target, given);
            return answer instanceof Boolean b ? (b ? 1 : 0) : ((Number) answer).longValue();
        } catch (InvocationTargetException | IllegalAccessException e) {
            throw new IllegalStateException(text + " threw", e);
        }
    }

    /** By name alone: in the face no two have the same one. */
    private static Map<String, Method> methodsOf(Class<?> type) {
        Map<String, Method> found = new HashMap<>();
        for (Method m : type.getDeclaredMethods()) {
            if (!Modifier.isPrivate(m.getModifiers())) {
                found.put(m.getName(), m);
            }
        }
        return found;
    }

    private static Object argument(String part) {
        return switch (part) {
            case "true" -> true;
            case "false" -> false;
            case "MIN" -> Integer.MIN_VALUE;
            case "MAX" -> Integer.MAX_VALUE;
            default -> Integer.parseInt(part);
        };
    }

    @Override
    public String toString() {
        return text;
    }
}
