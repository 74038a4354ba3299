import java.lang.reflect.InvocationTargetException;
import java.lang.reflect.Method;
import java.lang.reflect.Modifier;
import java.util.ArrayList;
import java.util.LinkedHashMap;
import java.util.List;
import java.util.Map;
import java.util.NoSuchElementException;

/** An object, QueueDrive or PlainDrive, and its calls by name. A QueueDrive is used for 512 calls and no more. */
final class Calls {
    /** What a call answers when it throws NoSuchElementException. */
    static final String THROWS = "throws";
    /** What later calls answer is free, so that no test may ask for it. */
    static final int MOST = 512;

    private static final Map<String, Method> FACE = face(QueueDrive.class);
    private static final Map<String, Method> PLAIN = face(PlainDrive.class);

    private final Object drive;
    private final Map<String, Method> methods;
    private int used;

    private Calls(Object drive, Map<String, Method> methods) {
        this.drive = drive;
        this.methods = methods;
    }

    static Calls onNew() {
        return new Calls(new QueueDrive(), FACE);
    }

    static Calls on(PlainDrive plain) {
        return new Calls(plain, PLAIN);
    }

    private static Map<String, Method> face(Class<?> type) {
        Map<String, Method> methods = new LinkedHashMap<>();
        for (Method m : type.getDeclaredMethods()) {
            if (!Modifier.isPrivate(m.getModifiers()) && !Modifier.isStatic(m.getModifiers()) && !m.isSynthetic()) {
                m.setAccessible(true);
                methods.put(m.getName(), m);
            }
        }
        return methods;
    }

    /** How many calls more the object may be used for. */
    int left() {
        return MOST - used;
    }

    /** The answer as a text: a number (true 1, false 0) or "throws". */
    String answer(String name, int... args) {
        Method m = methods.get(name);
        if (m == null) {
            throw new IllegalArgumentException("no call " + name);
        }
        used++;
        if (methods == FACE && used > MOST) {
            throw new IllegalStateException("an object is used for more than " + MOST + " calls");
        }
        Object[] boxed = new Object[args.length];
        for (int i = 0; i < args.length; i++) {
            boxed[i] = args[i];
        }
        try {
            Object answer = m.invoke(drive, boxed);
            return answer instanceof Boolean b ? b ? "1" : "0" : String.valueOf(answer);
        } catch (InvocationTargetException e) {
            if (e.getCause().getClass() == NoSuchElementException.class) {
                return THROWS;
            }
            throw new IllegalStateException(name + " threw " + e.getCause(), e.getCause());
        } catch (IllegalAccessException e) {
            throw new IllegalStateException(e);
        }
    }

    /** THE ROW; its length is asked first, so that it costs one call more than it has numbers. */
    List<String> row() {
        List<String> row = new ArrayList<>();
        int size = Integer.parseInt(answer("count", 10));
        for (int i = 0; i < size; i++) {
            row.add(answer("row", i));
        }
        return row;
    }

    /** A call's answer with THE ROW behind it, as one text. */
    String answerAndRow(String name, int... args) {
        return name + " " + answer(name, args) + row();
    }

    /** THE TEXT becomes this. */
    void text(String text) {
        answer("end", 0);
        for (int i = 0; i < text.length(); i += 4) {
            int v = 0;
            for (int k = i; k < i + 4; k++) {
                v = v << 8 | (k < text.length() ? text.charAt(k) & 255 : 0);
            }
            answer("sign", v);
        }
        answer("end", text.length());
    }

    /** How many calls text() takes. */
    static int costOf(String text) {
        return text == null ? 0 : 2 + (text.length() + 3) / 4;
    }
}
