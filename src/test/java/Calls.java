import java.lang.reflect.InvocationTargetException;
import java.lang.reflect.Method;
import java.lang.reflect.Modifier;
import java.util.ArrayList;
import java.util.LinkedHashMap;
import java.util.List;
import java.util.Map;
import java.util.NoSuchElementException;

/** Calls of QueueDrive, or of PlainDrive, by name. */
final class Calls {
    /** What a call answers when it throws NoSuchElementException. */
    static final String THROWS = "throws";

    private static final Map<String, Method> FACE = face(QueueDrive.class);
    private static final Map<String, Method> PLAIN = face(PlainDrive.class);

    private Calls() {
    }

    private static Map<String, Method> face(Class<?> type) {
        Map<String, Method> methods = new LinkedHashMap<>();
        for (Method m : type.getDeclaredMethods()) {
            if (!Modifier.isPrivate(m.getModifiers()) && !Modifier.isStatic(m.getModifiers()) && !m.isSynthetic()) {
                m.setAccessible(true);
                methods.put(m.getName(), m);
            }
        }
        return methods;
    }

    /** The answer as a text: a number (true 1, false 0) or "throws". */
    static String answer(Object drive, String name, int... args) {
        Method m = (drive instanceof QueueDrive ? FACE : PLAIN).get(name);
        if (m == null) {
            throw new IllegalArgumentException("no call " + name);
        }
        Object[] boxed = new Object[args.length];
        for (int i = 0; i < args.length; i++) {
            boxed[i] = args[i];
        }
        try {
            Object answer = m.invoke(drive, boxed);
            return answer instanceof Boolean b ? b ? "1" : "0" : String.valueOf(answer);
        } catch (InvocationTargetException e) {
            if (e.getCause().getClass() == NoSuchElementException.class) {
                return THROWS;
            }
            throw new IllegalStateException(name + " threw " + e.getCause(), e.getCause());
        } catch (IllegalAccessException e) {
            throw new IllegalStateException(e);
        }
    }

    /** THE ROW, read number by number till there is none. */
    static List<String> row(Object drive) {
        List<String> row = new ArrayList<>();
        String number = answer(drive, "row", 0);
        while (!number.equals(THROWS)) {
            row.add(number);
            number = answer(drive, "row", row.size());
        }
        return row;
    }

    /** THE TEXT becomes this. */
    static void text(Object drive, String text) {
        answer(drive, "end", 0);
        for (int i = 0; i < text.length(); i += 4) {
            int v = 0;
            for (int k = i; k < i + 4; k++) {
                v = v << 8 | (k < text.length() ? text.charAt(k) & 255 : 0);
            }
            answer(drive, "sign", v);
        }
        answer(drive, "end", text.length());
    }
}
