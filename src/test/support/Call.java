import java.lang.reflect.InvocationTargetException;
import java.lang.reflect.Method;
import java.lang.reflect.Modifier;
import java.util.Arrays;
import java.util.HashMap;
import java.util.Map;

/** A call of the face by its name, so that whole tables of arguments can be tried. */
record Call(String name, long... args) {
    private static final Map<String, Method> FACE = new HashMap<>();

    static {
        for (Method m : WallPatience.class.getDeclaredMethods()) {
            if (Modifier.isPublic(m.getModifiers())) {
                FACE.put(m.getName(), m);
            }
        }
    }

    long askOf(WallPatience x) {
        Method m = FACE.get(name);
        Class<?>[] types = m.getParameterTypes();
        Object[] given = new Object[types.length];
        for (int k = 0; k < types.length; k++) {
            if (types[k] == int.class) {
                given[k] = Math.toIntExact(args[k]);
            } else {
                given[k] = args[k];
            }
        }
        try {
            return ((Number) m.invoke(x, given)).longValue();
        } catch (InvocationTargetException e) {
            throw new IllegalStateException(this + " has thrown", e.getCause());
        } catch (IllegalAccessException e) {
            throw new IllegalStateException(e);
        }
    }

    @Override
    public String toString() {
        return name + Arrays.toString(args).replace('[', '(').replace(']', ')');
    }
}
