import java.io.IOException;
import java.nio.file.Files;
import java.nio.file.Path;
import java.util.ArrayList;
import java.util.Arrays;
import java.util.List;
import java.util.Set;
import java.util.stream.Collectors;
import java.util.stream.Stream;

/**
 * The runs under src/test/runs, a file for each promise. A run starts with "new"; each line behind it is a call,
 * {@code ["TEXT"] name arguments = answer [ROW]}: ahead of the call THE TEXT becomes TEXT. Besides the answer and the
 * ROW it is held against twins without that call that refused calls and questions change nothing.
 */
public final class RunsTest {
    private static final Set<String> READERS = Set.of("queues", "rule", "day", "law");
    private static final Set<String> QUESTIONS = Set.of("queue", "waiting", "running", "outbox", "phases", "room",
        "block", "next", "deals", "when", "drains", "would", "needs", "bells", "recall", "served", "fits", "asks",
        "laps", "law", "years", "count", "row");
    private static final int PROMISES = 43;

    private int wrong;

    private record Line(String told, String text, String name, int[] args, String answer, List<String> row) {
        static Line of(String told) {
            String rest = told;
            String text = null;
            if (rest.startsWith("\"")) {
                int close = rest.indexOf('"', 1);
                text = rest.substring(1, close);
                rest = rest.substring(close + 1).trim();
            }
            int equals = rest.indexOf(" = ");
            String[] call = rest.substring(0, equals).trim().split(" +");
            String due = rest.substring(equals + 3).trim();
            List<String> row = null;
            int bracket = due.indexOf('[');
            if (bracket >= 0) {
                String inside = due.substring(bracket + 1, due.length() - 1).trim();
                row = inside.isEmpty() ? List.of() : List.of(inside.split(" +"));
                due = due.substring(0, bracket).trim();
            }
            int[] args = Arrays.stream(call).skip(1).mapToInt(Integer::parseInt).toArray();
            return new Line(told, text, call[0], args, due, row);
        }

        String callOn(Object drive) {
            if (text != null) {
                Calls.text(drive, text);
            }
            return Calls.answer(drive, name, args);
        }

        /** What stays of a call that changes nothing: THE TEXT, read or told, is gone. */
        void leaveOutOn(Object drive) {
            if (text != null || READERS.contains(name)) {
                Calls.answer(drive, "end", 0);
            }
        }

        boolean isRefused() {
            boolean truth = Set.of("end", "keep", "again").contains(name);
            return answer.startsWith("-") && !name.equals("law") && !(name.equals("sheet") && answer.equals("-3"))
                || answer.equals("throws") || truth && answer.equals("0");
        }
    }

    public static void main(String[] args) throws IOException {
        Path runs = Path.of(args.length > 0 ? args[0] : "src/test/runs");
        RunsTest test = new RunsTest();
        List<Path> files;
        try (Stream<Path> all = Files.list(runs)) {
            files = all.filter(f -> f.toString().endsWith(".txt")).sorted().collect(Collectors.toList());
        }
        for (int promise = 1; promise <= PROMISES; promise++) {
            String number = String.format("%02d-", promise);
            if (files.stream().noneMatch(f -> f.getFileName().toString().startsWith(number))) {
                test.wrong++;
                System.out.println("no run for promise " + promise);
            }
        }
        for (Path file : files) {
            test.runAll(file);
        }
        System.out.println(test.wrong == 0 ? "all runs are as due" : test.wrong + " are wrong");
        if (test.wrong > 0) {
            System.exit(1);
        }
    }

    private void runAll(Path file) throws IOException {
        List<Line> run = new ArrayList<>();
        for (String told : Files.readAllLines(file)) {
            if (told.equals("new")) {
                check(file, run);
                run.clear();
            } else if (!told.isBlank() && !told.startsWith("#")) {
                run.add(Line.of(told.trim()));
            }
        }
        check(file, run);
    }

    private void check(Path file, List<Line> run) {
        QueueDrive drive = new QueueDrive();
        for (int i = 0; i < run.size(); i++) {
            Line line = run.get(i);
            String got = line.callOn(drive);
            List<String> row = Calls.row(drive);
            if (!got.equals(line.answer()) || line.row() != null && !row.equals(line.row())) {
                fault(file, line, "answered " + got + " " + row);
            }
            if (line.isRefused()) {
                twins(file, run, i, true);
            } else if (QUESTIONS.contains(line.name())) {
                twins(file, run, i, false);
            }
        }
    }

    /** The object behind line i is as one on which that call was left out; its ROW, too, if that is asked. */
    private void twins(Path file, List<Line> run, int i, boolean rowToo) {
        QueueDrive with = new QueueDrive();
        QueueDrive without = new QueueDrive();
        for (int k = 0; k <= i; k++) {
            run.get(k).callOn(with);
            if (k < i) {
                run.get(k).callOn(without);
            } else {
                run.get(k).leaveOutOn(without);
            }
        }
        if (rowToo && !Calls.row(with).equals(Calls.row(without))) {
            fault(file, run.get(i), "changed the ROW");
        }
        if (!look(with).equals(look(without))) {
            fault(file, run.get(i), "changed something");
        }
    }

    private void fault(Path file, Line line, String what) {
        wrong++;
        System.out.println(file.getFileName() + ": " + line.told() + ": " + what);
    }

    /** All that an object shows, as it is, as it goes on, as far back as undo() goes, and as kept. */
    private static List<String> look(QueueDrive drive) {
        List<String> seen = new ArrayList<>();
        seen.add("text " + drive.count(11) + ", undo " + drive.count(9));
        glance(drive, seen);
        goOn(drive, seen);
        drive.undo();
        drive.undo();
        for (int i = 0; i < 9; i++) {
            seen.add("undo " + drive.undo());
            glance(drive, seen);
        }
        for (int i = 0; i < 2; i++) {
            seen.add("again " + drive.again(i));
            glance(drive, seen);
        }
        return seen;
    }

    private static void glance(QueueDrive drive, List<String> seen) {
        for (int what = 0; what < 9; what++) {
            seen.add("count " + drive.count(what));
        }
        for (int q = 0; q < drive.count(0); q++) {
            for (int what = 0; what < 13; what++) {
                seen.add("queue " + drive.queue(q, what));
            }
            seen.add("waiting " + drive.waiting(q) + Calls.row(drive));
            for (int id = 0; id < 16; id++) {
                seen.add("recall " + drive.recall(q, id) + Calls.row(drive));
            }
        }
        for (int b = 0; b < 10; b++) {
            seen.add("block " + drive.block(b) + Calls.row(drive));
        }
        seen.add("running " + drive.running() + Calls.row(drive));
        seen.add("outbox " + drive.outbox() + Calls.row(drive));
        seen.add("bells " + drive.bells() + Calls.row(drive));
        seen.add("deals " + drive.deals(17) + Calls.row(drive));
        seen.add("fits " + drive.fits() + Calls.row(drive));
        seen.add("asks " + drive.asks() + Calls.row(drive));
    }

    private static void goOn(QueueDrive drive, List<String> seen) {
        int put = drive.puts(0, 1, 3, 50);
        Calls.text(drive, "r0r1r2r3r4");
        int rung = drive.day();
        seen.add("puts " + put + ", day " + rung + ", ticks " + drive.ticks(3) + Calls.row(drive));
        glance(drive, seen);
    }
}
