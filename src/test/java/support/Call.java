import java.lang.reflect.InvocationTargetException;
import java.lang.reflect.Method;
import java.util.HashMap;
import java.util.Map;

/** One call as a text, such as "write(0, 59, -1)"; MIN and MAX stand for the least and the greatest int. */
final class Call {
    private static final Map<String, Method> METHODS = new HashMap<>();

    static {
        for (Method m : CutBureau.class.getMethods()) {
            if (m.getDeclaringClass() == CutBureau.class) {
                METHODS.put(m.getName(), m);
            }
        }
    }

    private final String text;
    private final Method method;
    private final Object[] numbers;

    Call(String text) {
        this.text = text;
        int open = text.indexOf('(');
        this.method = METHODS.get(text.substring(0, open));
        String inner = text.substring(open + 1, text.length() - 1).trim();
        String[] parts = inner.isEmpty() ? new String[0] : inner.split(" *, *");
        this.numbers = new Object[parts.length];
        for (int i = 0; i < parts.length; i++) {
            numbers[i] = value(parts[i]);
        }
    }

    private static Object value(String part) {
        switch (part) {
            case "true":
                return true;
            case "false":
                return false;
            case "MIN":
                return Integer.MIN_VALUE;
            case "MAX":
                return Integer.MAX_VALUE;
            default:
                return Integer.parseInt(part);
        }
    }

    int on(CutBureau x) {
        try {
            return (Integer) method.invoke(x, numbers);
        } catch (InvocationTargetException e) {
            throw new IllegalStateException(text + " threw", e.getCause());
        } catch (IllegalAccessException e) {
            throw new IllegalStateException(text, e);
        }
    }

    @Override
    public String toString() {
        return text;
    }
}
