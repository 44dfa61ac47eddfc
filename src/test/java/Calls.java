import java.lang.reflect.InvocationTargetException;
import java.lang.reflect.Method;
import java.util.HashMap;
import java.util.Map;

/** Does a call that is written as text, as in "lay(0, MAX, -7)"; MIN and MAX are the least and the greatest int. */
final class Calls {
    private static final Map<String, Method> FACE = new HashMap<>();

    static {
        for (Method method : WithinWords.class.getMethods()) {
            if (method.getDeclaringClass() == WithinWords.class) {
                FACE.put(method.getName(), method);
            }
        }
    }

    private Calls() {
    }

    static long answer(WithinWords x, String call) {
        int open = call.indexOf('(');
        Method method = FACE.get(call.substring(0, open));
        String inside = call.substring(open + 1, call.length() - 1);
        String[] told = inside.isEmpty() ? new String[0] : inside.split(", ");
        Object[] values = new Object[told.length];
        for (int i = 0; i < told.length; i++) {
            values[i] = valueOf(told[i]);
        }
        try {
            return ((Number) method.invoke(x, values)).longValue();
        } catch (InvocationTargetException e) {
            throw new AssertionError(call + " threw " + e.getCause(), e.getCause());
        } catch (IllegalAccessException e) {
            throw new AssertionError(call, e);
        }
    }

    private static Object valueOf(String told) {
        return switch (told) {
            case "true" -> true;
            case "false" -> false;
            case "MIN" -> Integer.MIN_VALUE;
            case "MAX" -> Integer.MAX_VALUE;
            default -> Integer.valueOf(told);
        };
    }

    /** "missing", or its ints with commas. */
    static String readRow(WithinWords x, int r) {
        if (x.at(r, 0) == WithinWords.FINDING && x.finding() == 1) {
            return "missing";
        }
        return Play.readRow(x, r);
    }

    /** "missing", or its ints as letters: a is 0. */
    static String readLetters(WithinWords x, int r) {
        if (x.at(r, 0) == WithinWords.FINDING && x.finding() == 1) {
            return "missing";
        }
        return Play.readLetters(x, r);
    }

    /** "missing", or its letters. */
    static String readWord(WithinWords x, int w) {
        return x.size(w) < 0 ? "missing" : Play.read(x, w);
    }

    /** "missing", or its bytes with commas; the bytes are 0 then. */
    static String takeText(WithinWords x, int t) {
        int old = x.put(t, 0, 0);
        if (old == WithinWords.FINDING && x.finding() == 1) {
            return "missing";
        }
        StringBuilder bytes = new StringBuilder();
        for (int i = 0; old >= 0; i++) {
            bytes.append(i == 0 ? "" : ",").append(old - 1000);
            old = x.put(t, i + 1, 0);
        }
        return bytes.toString();
    }
}
