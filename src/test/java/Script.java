import java.io.IOException;
import java.nio.file.Files;
import java.nio.file.Path;
import java.util.ArrayList;
import java.util.Arrays;
import java.util.List;
import java.util.Set;
import java.util.stream.Collectors;
import java.util.stream.Stream;

/**
 * Runs of calls with the answers due, as a file tells them. A run starts with "new"; each line behind it is a call,
 * {@code ["TEXT"] name arguments = answer [ROW]}: ahead of the call THE TEXT becomes TEXT (a sign may be told there by
 * its number, {@code \hh}). A line {@code = words} tells the sentence of the document that the runs behind it are about.
 */
final class Script {
    private static final Set<String> READERS = Set.of("queues", "rule", "day", "law");
    private static final Set<String> TRUTHS = Set.of("end", "keep", "again");
    private static final Set<String> QUESTIONS = Set.of("queue", "waiting", "running", "outbox", "phases", "room",
        "block", "next", "deals", "when", "drains", "would", "needs", "bells", "recall", "served", "fits", "asks",
        "laps", "law", "years", "count", "row");

    record Line(int number, String told, String text, String name, int[] args, String answer, List<String> row) {
        static Line of(int number, String told) {
            String rest = told;
            String text = null;
            if (rest.startsWith("\"")) {
                int close = rest.indexOf('"', 1);
                text = signs(rest.substring(1, close));
                rest = rest.substring(close + 1).trim();
            }
            int equals = rest.indexOf(" = ");
            String[] call = rest.substring(0, equals).trim().split(" +");
            String due = rest.substring(equals + 3).trim();
            List<String> row = null;
            int bracket = due.indexOf('[');
            if (bracket >= 0) {
                String inside = due.substring(bracket + 1, due.length() - 1).trim();
                row = inside.isEmpty() ? List.of() : List.of(inside.split(" +"));
                due = due.substring(0, bracket).trim();
            }
            int[] args = Arrays.stream(call).skip(1).mapToInt(Integer::parseInt).toArray();
            return new Line(number, told, text, call[0], args, due, row);
        }

        private static String signs(String told) {
            StringBuilder signs = new StringBuilder();
            for (int i = 0; i < told.length(); i++) {
                if (told.charAt(i) == '\\') {
                    signs.append((char) Integer.parseInt(told.substring(i + 1, i + 3), 16));
                    i += 2;
                } else {
                    signs.append(told.charAt(i));
                }
            }
            return signs.toString();
        }

        String callOn(Calls drive) {
            if (text != null) {
                drive.text(text);
            }
            return drive.answer(name, args);
        }

        /** What stays of a call that changes nothing: THE TEXT, told ahead of it, or gone if the call reads it. */
        void leaveOutOn(Calls drive) {
            if (READERS.contains(name)) {
                drive.answer("end", 0);
            } else if (text != null) {
                drive.text(text);
            }
        }

        boolean isRefused() {
            return answer.startsWith("-") && !name.equals("law") && !(name.equals("sheet") && answer.equals("-3"))
                || answer.equals("throws") || TRUTHS.contains(name) && answer.equals("0");
        }

        boolean isQuestion() {
            return QUESTIONS.contains(name);
        }
    }

    /** The lines of one run, and the sentence that they are about (null: none is named). */
    record Run(String sentence, List<Line> lines) {
    }

    private final Path file;
    private final List<Run> runs = new ArrayList<>();
    private final List<String> sentences = new ArrayList<>();

    private Script(Path file) {
        this.file = file;
    }

    static List<Script> allIn(String directory) throws IOException {
        List<Path> files;
        try (Stream<Path> all = Files.list(Path.of(directory))) {
            files = all.filter(f -> f.toString().endsWith(".txt")).sorted().collect(Collectors.toList());
        }
        List<Script> scripts = new ArrayList<>();
        for (Path file : files) {
            scripts.add(read(file));
        }
        return scripts;
    }

    private static Script read(Path file) throws IOException {
        Script script = new Script(file);
        String sentence = null;
        int number = 0;
        for (String told : Files.readAllLines(file)) {
            number++;
            if (told.startsWith("= ")) {
                sentence = told.substring(2).trim();
                script.sentences.add(sentence);
            } else if (told.equals("new")) {
                script.runs.add(new Run(sentence, new ArrayList<>()));
            } else if (!told.isBlank() && !told.startsWith("#")) {
                script.runs.get(script.runs.size() - 1).lines().add(Line.of(number, told.trim()));
            }
        }
        return script;
    }

    String name() {
        return file.getFileName().toString();
    }

    /** Of which part of the document a file of sentences is, as "t1" or "08". */
    String part() {
        return name().substring(0, 2);
    }

    /** The same in words. */
    String place() {
        return part().startsWith("t") ? "Terms " + part().substring(1) : "Promise " + Integer.parseInt(part());
    }

    List<Run> runs() {
        return runs;
    }

    List<String> sentences() {
        return sentences;
    }
}
