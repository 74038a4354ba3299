import java.io.IOException;
import java.lang.reflect.Constructor;
import java.lang.reflect.Field;
import java.lang.reflect.Method;
import java.lang.reflect.Modifier;
import java.nio.file.Files;
import java.nio.file.Path;
import java.util.ArrayList;
import java.util.Arrays;
import java.util.List;
import java.util.Set;
import java.util.TreeSet;
import java.util.stream.Collectors;

/** The class has the document's face and nothing more, and keeps to what of LANGUAGE.md can be seen by a machine. */
public final class FaceTest {
    private static final String[] FACE = {
        "int sign(int)", "boolean end(int)", "int queues()", "int rule()",
        "int queue(int,int) throws NoSuchElementException", "int sheet(int,int,int,int)",
        "int puts(int,int,int,int)", "int ring(int)", "int ticks(int)", "int takes(int)", "int calls(int,int)",
        "int resets()", "int weighs(int,int)", "int depth(int)", "int day()", "int undo()", "int waiting(int)",
        "int running()", "int outbox()", "int phases(int)", "int room(int)", "int block(int)", "int next()",
        "int deals(int)", "int when(int,int)", "int drains()", "int would(int)", "int needs(int)", "int bells()",
        "int recall(int,int)", "int served()", "int heard(int,int)", "int denies()", "int fits()", "int asks()",
        "int laps(int,int,int)", "int law()", "int years(int,int)", "boolean keep(int)", "boolean again(int)",
        "int count(int)", "long row(int) throws NoSuchElementException",
    };
    private static final String SOURCE = "src/main/java/QueueDrive.java";
    private static final int MOST_CLASSES = 12;
    private static final int MOST_FIELDS = 20;
    private static final int MOST_PARAMETERS = 7;
    private static final int MOST_LINES = 60;

    private final List<String> faults = new ArrayList<>();

    public static void main(String[] args) throws IOException {
        FaceTest test = new FaceTest();
        test.checkFace();
        test.checkClasses();
        test.checkSource(Files.readAllLines(Path.of(SOURCE)));
        test.faults.forEach(System.out::println);
        if (!test.faults.isEmpty()) {
            System.exit(1);
        }
        System.out.println("the face is as due");
    }

    private static String types(Class<?>[] types, String between) {
        return Arrays.stream(types).map(Class::getSimpleName).collect(Collectors.joining(between));
    }

    private static String told(Method m) {
        String thrown = types(m.getExceptionTypes(), ", ");
        return m.getReturnType().getSimpleName() + " " + m.getName() + "(" + types(m.getParameterTypes(), ",") + ")"
            + (thrown.isEmpty() ? "" : " throws " + thrown);
    }

    private void checkFace() {
        Class<?> type = QueueDrive.class;
        due("modifiers", "public final", Modifier.toString(type.getModifiers()));
        Set<String> open = new TreeSet<>();
        Set<String> names = new TreeSet<>();
        for (Method m : type.getDeclaredMethods()) {
            if (Modifier.isPublic(m.getModifiers())) {
                open.add(told(m));
                names.add(m.getName());
            } else if (!Modifier.isPrivate(m.getModifiers())) {
                faults.add("neither public nor private: " + m);
            }
        }
        due("methods", new TreeSet<>(Arrays.asList(FACE)).toString(), open.toString());
        for (Field f : type.getDeclaredFields()) {
            if (!Modifier.isPrivate(f.getModifiers()) && !f.getName().equals("NONE")) {
                faults.add("not private: " + f);
            }
        }
        due("NONE", "-1", String.valueOf(QueueDrive.NONE));
        Constructor<?>[] makers = type.getDeclaredConstructors();
        due("constructors", "[public QueueDrive()]", Arrays.toString(makers));
        for (Class<?> inside : classes()) {
            for (Method m : inside.getDeclaredMethods()) {
                if (Modifier.isPrivate(m.getModifiers()) && names.contains(m.getName())) {
                    faults.add("a private method bears a public one's name: " + m);
                }
            }
        }
    }

    private static List<Class<?>> classes() {
        List<Class<?>> all = new ArrayList<>(List.of(QueueDrive.class.getDeclaredClasses()));
        all.add(QueueDrive.class);
        return all;
    }

    private void checkClasses() {
        if (classes().size() > MOST_CLASSES) {
            faults.add("too many classes: " + classes().size());
        }
        for (Class<?> type : classes()) {
            int fields = 0;
            for (Field f : type.getDeclaredFields()) {
                boolean constant = Modifier.isStatic(f.getModifiers());
                fields += constant ? 0 : 1;
                if (constant && !Modifier.isFinal(f.getModifiers())) {
                    faults.add("static, but not final: " + f);
                }
            }
            if (fields > MOST_FIELDS) {
                faults.add("too many fields: " + type);
            }
            if (type != QueueDrive.class && !Modifier.isStatic(type.getModifiers())) {
                faults.add("not static: " + type);
            }
            for (Method m : type.getDeclaredMethods()) {
                if (m.getParameterCount() > MOST_PARAMETERS) {
                    faults.add("too many parameters: " + m);
                }
            }
        }
    }

    private void checkSource(List<String> lines) {
        int from = 0;
        for (int i = 0; i < lines.size(); i++) {
            String line = lines.get(i);
            String code = line.replaceAll("//.*|/\\*\\*.*|^ *\\*.*", "");
            if (!line.chars().allMatch(c -> c >= 32 && c < 127)) {
                faults.add("a strange sign in line " + (i + 1));
            }
            if (code.matches(".*(->|::|\\b(assert|synchronized|finally|catch|try|lambda|var)\\b).*")) {
                faults.add("not in the language: line " + (i + 1));
            }
            if (code.startsWith("import ") && !code.matches("import java\\.util\\.(Arrays|NoSuchElementException);")) {
                faults.add("an import that is not needed: line " + (i + 1));
            }
            if (code.matches("^ {4}( {4})?[a-zA-Z].*\\).*\\{$")) {
                from = i;
            }
            if (code.matches("^ {4}( {4})?}$") && i - from > MOST_LINES && from > 0) {
                faults.add("a long method: lines " + (from + 1) + " to " + (i + 1));
            }
            if (code.matches("^ {4}( {4})?}$")) {
                from = 0;
            }
        }
    }

    private void due(String what, String due, String got) {
        if (!due.equals(got)) {
            faults.add(what + ": due is " + due + ", but it is " + got);
        }
    }
}
