import java.lang.reflect.Method;
import java.util.HashMap;
import java.util.Map;

/** Calls a method of the class by its name, so that one row of calls serves the class and the model. */
final class Caller {
    private static final Map<String, Method> METHODS = new HashMap<>();

    static {
        for (Method m : StrandTangles.class.getDeclaredMethods()) {
            if (java.lang.reflect.Modifier.isPublic(m.getModifiers())) {
                METHODS.put(m.getName(), m);
            }
        }
    }

    private Caller() {
    }

    static long ask(StrandTangles object, String call, long... a) {
        Method m = METHODS.get(call);
        Class<?>[] types = m.getParameterTypes();
        Object[] given = new Object[types.length];
        for (int i = 0; i < types.length; i++) {
            if (types[i] == int.class) {
                given[i] = (int) a[i];
            } else {
                given[i] = a[i];
            }
        }
        try {
            return ((Number) m.invoke(object, given)).longValue();
        } catch (ReflectiveOperationException e) {
            throw new IllegalStateException(call + " " + java.util.Arrays.toString(a), e);
        }
    }
}
