import java.lang.reflect.Method;
import java.lang.reflect.Modifier;
import java.util.HashMap;
import java.util.Map;

/** The calls of the document's face, by their names. */
final class Calls {
    /** How many calls an object is used for. */
    static final int MOST = 512;
    private static final Map<String, Method> FACE = new HashMap<>();

    static {
        for (Method m : ChangeDoors.class.getDeclaredMethods()) {
            if (Modifier.isPublic(m.getModifiers())) FACE.put(m.getName(), m);
        }
    }

    private Calls() {}

    static boolean has(String name) {
        return FACE.containsKey(name);
    }

    static int arguments(String name) {
        return FACE.get(name).getParameterCount();
    }

    static long answer(ChangeDoors x, String name, long... told) {
        Method m = FACE.get(name);
        if (m == null || m.getParameterCount() != told.length) throw new IllegalArgumentException("no such call: " + show(name, told));
        Object[] arguments = new Object[told.length];
        for (int k = 0; k < told.length; k++) {
            arguments[k] = m.getParameterTypes()[k] == long.class ? (Object) told[k] : (Object) Math.toIntExact(told[k]);
        }
        try {
            return ((Number) m.invoke(x, arguments)).longValue();
        } catch (ReflectiveOperationException e) {
            throw new IllegalStateException(show(name, told) + " threw", e);
        }
    }

    static String show(String name, long... told) {
        StringBuilder text = new StringBuilder(name).append('(');
        for (int k = 0; k < told.length; k++) text.append(k == 0 ? "" : ", ").append(told[k]);
        return text.append(')').toString();
    }
}
