import java.io.IOException;
import java.util.ArrayList;
import java.util.List;

/**
 * The runs under src/test/runs, a file for each promise, and under src/test/sentences, a run or more for each sentence
 * of the document. Besides the answer and the ROW it is held against twins without that call that refused calls and
 * questions change nothing. No object is used for more than 512 calls.
 */
public final class RunsTest {
    private static final int PROMISES = 43;

    private int wrong;

    public static void main(String[] args) throws IOException {
        RunsTest test = new RunsTest();
        List<Script> scripts = new ArrayList<>();
        for (String directory : args.length > 0 ? args : new String[] {"src/test/runs", "src/test/sentences"}) {
            scripts.addAll(Script.allIn(directory));
        }
        for (int promise = 1; promise <= PROMISES; promise++) {
            String number = String.format("%02d-", promise);
            if (scripts.stream().noneMatch(s -> s.name().startsWith(number))) {
                test.wrong++;
                System.out.println("no run for promise " + promise);
            }
        }
        int runs = 0;
        for (Script script : scripts) {
            for (Script.Run run : script.runs()) {
                test.check(script, run);
                runs++;
            }
        }
        System.out.println(test.wrong == 0 ? runs + " runs are as due" : test.wrong + " answers are wrong");
        if (test.wrong > 0) {
            System.exit(1);
        }
    }

    private void check(Script script, Script.Run run) {
        Calls drive = Calls.onNew();
        for (int i = 0; i < run.lines().size(); i++) {
            Script.Line line = run.lines().get(i);
            String got = line.callOn(drive);
            if (!got.equals(line.answer())) {
                fault(script, run, line, "answered " + got);
            }
            if (line.row() != null) {
                checkRow(script, run, line, drive);
            }
            if (line.isRefused()) {
                twins(script, run, i, true);
            } else if (line.isQuestion()) {
                twins(script, run, i, false);
            }
        }
    }

    private void checkRow(Script script, Script.Run run, Script.Line line, Calls drive) {
        List<String> got = new ArrayList<>();
        String number = drive.answer("row", 0);
        while (!number.equals(Calls.THROWS)) {
            got.add(number);
            number = drive.answer("row", got.size());
        }
        if (!got.equals(line.row())) {
            fault(script, run, line, "the ROW is " + got);
        }
    }

    /** The object behind line i is as one on which that call was left out; its ROW, too, if that is asked. */
    private void twins(Script script, Script.Run run, int i, boolean rowToo) {
        Script.Line line = run.lines().get(i);
        for (int part = rowToo ? -1 : 0; part < Look.PARTS; part++) {
            Calls with = upTo(run, i);
            line.callOn(with);
            Calls without = upTo(run, i);
            line.leaveOutOn(without);
            List<String> seen = part < 0 ? with.row() : Look.at(with, part);
            List<String> due = part < 0 ? without.row() : Look.at(without, part);
            if (!seen.equals(due)) {
                fault(script, run, line, "it changed something: " + seen + " instead of " + due);
                return;
            }
        }
    }

    private static Calls upTo(Script.Run run, int i) {
        Calls drive = Calls.onNew();
        for (int k = 0; k < i; k++) {
            run.lines().get(k).callOn(drive);
        }
        return drive;
    }

    private void fault(Script script, Script.Run run, Script.Line line, String what) {
        wrong++;
        System.out.println(script.name() + ":" + line.number() + ": " + line.told() + ": " + what
            + (run.sentence() == null ? "" : " (" + script.place() + ", \"" + run.sentence() + "\")"));
    }
}
