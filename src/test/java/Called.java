import java.lang.reflect.InvocationTargetException;
import java.lang.reflect.Method;
import java.lang.reflect.Modifier;
import java.util.HashMap;
import java.util.Map;

/** Calls by their text, as "paint(0, 1, -1)": what is told of a call is then what was called. */
final class Called {
    private static final Map<String, Method> METHODS = new HashMap<>();

    private Called() {
    }

    static KeptColours bench(String calls) {
        return with(new KeptColours(), calls);
    }

    /** All calls of a text, with ';' between them. */
    static <T> T with(T on, String calls) {
        for (String text : calls.split(";")) {
            if (!text.isBlank()) {
                call(on, text.trim());
            }
        }
        return on;
    }

    static int call(Object on, String text) {
        int open = text.indexOf('(');
        String inside = text.substring(open + 1, text.lastIndexOf(')')).trim();
        String[] told = inside.isEmpty() ? new String[0] : inside.split(",");
        int[] values = new int[told.length];
        for (int i = 0; i < told.length; i++) {
            values[i] = number(told[i].trim());
        }
        return named(on, text.substring(0, open), values);
    }

    private static int number(String told) {
        return told.equals("MIN") ? Integer.MIN_VALUE : told.equals("MAX") ? Integer.MAX_VALUE : Integer.parseInt(told);
    }

    static int named(Object on, String name, int... values) {
        Object[] given = new Object[values.length];
        for (int i = 0; i < given.length; i++) {
            given[i] = values[i];
        }
        try {
            return (Integer) methodOf(on.getClass(), name).invoke(on, given);
        } catch (InvocationTargetException e) {
            throw new IllegalStateException(name + " threw " + e.getCause(), e.getCause());
        } catch (IllegalAccessException e) {
            throw new IllegalStateException(name, e);
        }
    }

    static String text(String name, int... values) {
        StringBuilder told = new StringBuilder(name + "(");
        for (int i = 0; i < values.length; i++) {
            told.append(i == 0 ? "" : ", ").append(values[i]);
        }
        return told + ")";
    }

    private static Method methodOf(Class<?> type, String name) {
        return METHODS.computeIfAbsent(type.getName() + "." + name, key -> {
            for (Method method : type.getDeclaredMethods()) {
                if (method.getName().equals(name) && !Modifier.isPrivate(method.getModifiers())) {
                    return method;
                }
            }
            throw new IllegalStateException("there is no " + key);
        });
    }
}
