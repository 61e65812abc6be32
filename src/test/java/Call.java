import java.lang.reflect.InvocationTargetException;
import java.lang.reflect.Method;
import java.util.HashMap;
import java.util.Map;
import java.util.Set;

/** A call of the face, read from a text such as "way(0, 1, 20, -3)"; MIN and MAX are the ends of the argument's type. */
record Call(Method method, Object[] arguments) {
    private static final Map<String, Method> FACE = new HashMap<>();

    static {
        for (Method m : StepRings.class.getMethods()) {
            if (m.getDeclaringClass() == StepRings.class) {
                FACE.put(m.getName(), m);
            }
        }
    }

    static Set<String> names() {
        return FACE.keySet();
    }

    static Call parsed(String text) {
        int open = text.indexOf('(');
        Method m = open < 0 ? null : FACE.get(text.substring(0, open));
        if (m == null || !text.endsWith(")")) {
            throw new IllegalArgumentException("no call: " + text);
        }
        String inside = text.substring(open + 1, text.length() - 1).trim();
        String[] parts = inside.isEmpty() ? new String[0] : inside.split(",\\s*");
        Class<?>[] types = m.getParameterTypes();
        if (parts.length != types.length) {
            throw new IllegalArgumentException("not its arguments: " + text);
        }
        Object[] arguments = new Object[parts.length];
        for (int i = 0; i < parts.length; i++) {
            arguments[i] = argument(types[i], parts[i]);
        }
        return new Call(m, arguments);
    }

    int on(StepRings x) {
        try {
            return (Integer) method.invoke(x, arguments);
        } catch (InvocationTargetException e) {
            throw new IllegalStateException("a call threw", e.getCause());
        } catch (IllegalAccessException e) {
            throw new IllegalStateException(e);
        }
    }

    private static Object argument(Class<?> type, String text) {
        if (type == boolean.class) {
            return Boolean.valueOf(text);
        }
        boolean ofLong = type == long.class;
        long v;
        switch (text) {
            case "MIN": v = ofLong ? Long.MIN_VALUE : Integer.MIN_VALUE; break;
            case "MAX": v = ofLong ? Long.MAX_VALUE : Integer.MAX_VALUE; break;
            default: v = Long.decode(ofLong && text.endsWith("L") ? text.substring(0, text.length() - 1) : text); break;
        }
        if (ofLong) {
            return v;
        }
        return Math.toIntExact(v);
    }
}
