import java.util.ArrayList;
import java.util.Arrays;
import java.util.List;
import java.util.Random;

/**
 * Drawn runs of calls on QueueDrive and on PlainDrive: all answers are the same, and the ROWS and counts where they are
 * looked at. A look takes calls of the 512, so that in some runs there is one behind each call, in others but now and
 * then, and in all at the end.
 */
public final class ModelTest {
    private static final int RUNS = 6000;
    // what the longest call with its ROW and the counts behind it take at most
    private static final int LONGEST_STEP = 50;
    private static final int LAST_LOOK = 12 + 13 * 5 + 14;

    private final Random random;
    private final Calls drive = Calls.onNew();
    private final PlainDrive plain = new PlainDrive();
    private final Calls model = Calls.on(plain);
    private final int looksAtRow;
    private final int looksAtCounts;
    private final List<String> told = new ArrayList<>();
    private final int[] leaning = new int[8];

    private ModelTest(long seed) {
        random = new Random(seed);
        looksAtRow = 1 << random.nextInt(6);
        looksAtCounts = 16 << random.nextInt(5);
        for (int i = 0; i < leaning.length; i++) {
            leaning[i] = random.nextInt(4);
        }
    }

    public static void main(String[] args) {
        int runs = args.length > 0 ? Integer.parseInt(args[0]) : RUNS;
        for (int run = 0; run < runs; run++) {
            ModelTest test = new ModelTest(run);
            if (!test.holds()) {
                System.out.println("run " + run + ":");
                test.told.forEach(System.out::println);
                System.exit(1);
            }
        }
        System.out.println(runs + " runs as the model");
    }

    private boolean holds() {
        int first = random.nextInt(10) == 0 ? 0 : 1 + random.nextInt(5);
        for (int i = 0; i < first; i++) {
            if (!same(queueText(), "queues")) {
                return false;
            }
        }
        // now and then all goes slowly, so that rings fill and drains() comes to no end
        if (leaning[5] == 0 && !(same("9", "rule") && same(null, "depth", 1))) {
            return false;
        }
        while (drive.left() > LONGEST_STEP + LAST_LOOK) {
            if (!one()) {
                return false;
            }
        }
        return sameRow() && sameCounts() && sameQueues();
    }

    private int upTo(int n) {
        return random.nextInt(n);
    }

    /** Mostly 0 .. n - 1, now and then outside. */
    private int about(int n) {
        int k = random.nextInt(40);
        if (k == 0) {
            return -1;
        }
        if (k == 1) {
            return n;
        }
        if (k == 2) {
            return new int[] {Integer.MIN_VALUE, Integer.MAX_VALUE, -7, 1000}[upTo(4)];
        }
        return upTo(n);
    }

    private int queue() {
        int many = Math.max(1, plain.now.qs.size());
        return upTo(60) == 0 ? about(5) : upTo(many);
    }

    /** A call of a QUEUE and an ID, mostly of a COMMAND that is not TAKEN. */
    private boolean ofOne(String name) {
        int queue = queue();
        if (upTo(4) == 0 || !plain.now.has(queue)) {
            return same(null, name, queue, about(16));
        }
        List<Integer> ids = plain.now.idsInUse(queue);
        return same(null, name, queue, ids.isEmpty() ? upTo(16) : ids.get(upTo(ids.size())));
    }

    private boolean one() {
        int kind = upTo(60);
        if (kind < 12 + 2 * leaning[0]) {
            int op = leaning[1] == 0 && upTo(2) == 0 ? 2 + upTo(2) : about(5);
            return same(null, "puts", queue(), op, leaning[2] == 0 ? upTo(2) : about(10),
                leaning[3] == 0 ? upTo(2) : about(100));
        }
        if (kind < 24) {
            return same(null, "ring", queue());
        }
        if (kind < 30) {
            return same(null, "ticks", upTo(4) == 0 ? about(61) : upTo(3));
        }
        if (kind < 36 + 2 * leaning[4]) {
            return leaning[6] == 0 && upTo(4) != 0 || same(null, "takes", queue());
        }
        if (kind < 39) {
            return ofOne("calls");
        }
        return other();
    }

    private boolean other() {
        switch (upTo(46)) {
            case 0: return upTo(12) != 0 || same(null, "resets");
            case 1: return same(null, "weighs", about(4), about(10));
            case 2: return same(null, "depth", about(6));
            case 3: return same(dayText(), "day");
            case 4: return same(dayText(), "day");
            case 5: return same(null, "undo");
            case 6: return same(null, "waiting", queue());
            case 7: return same(null, "running");
            case 8: return same(null, "outbox");
            case 9: return same(null, "phases", queue());
            case 10: return same(null, "room", queue());
            case 11: return same(null, "block", about(10));
            case 12: return same(null, "next");
            case 13: return same(null, "deals", about(61));
            case 14: return same(null, "when", queue(), about(16));
            case 15: return ofOne("when");
            case 16: return same(null, "drains");
            case 17: return same(null, "would", about(10));
            case 18: return same(null, "needs", queue());
            case 19: return same(null, "bells");
            case 20: return ofOne("recall");
            case 21: return same(null, "served");
            case 22: return same(null, "heard", about(4), upTo(3));
            case 23: return upTo(3) != 0 || same(null, "heard", about(4), about(10));
            case 24: return same(null, "denies");
            case 25: return same(null, "fits");
            case 26: return same(null, "asks");
            case 27: return same(null, "laps", about(41), about(40), about(10));
            case 28: return same(ruleText(), "law");
            case 29: return same(null, "years", random.nextInt(), about(41));
            case 30: return same(null, "keep", about(2));
            case 31: return upTo(3) != 0 || same(null, "again", about(2));
            case 32: return same(null, "count", about(12));
            case 33: return same(null, "queue", queue(), about(13));
            case 34: return same(null, "row", about(12));
            case 35: return upTo(6) != 0 || same(queueText(), "queues");
            case 36: return leaning[5] == 0 && upTo(4) != 0 || same(ruleText(), "rule");
            case 37: return same(null, "sheet", about(4), about(11), random.nextInt(500) - 150, random.nextInt(200) - 50);
            case 38: return same(null, "sheet", about(3), about(11), random.nextInt(), random.nextInt());
            case 39: return same(null, "sign", random.nextInt());
            case 40: return same(null, "end", about(30));
            default: return same(null, "ring", queue());
        }
    }

    private String queueText() {
        if (upTo(6) == 0) {
            return spoiled("" + (char) ('2' + upTo(7)) + (char) ('2' + upTo(7)) + "uhml".charAt(upTo(4)));
        }
        int size = upTo(3) == 0 ? 8 : 2 + upTo(7);
        return "" + size + (2 + upTo(7)) + "uhml".charAt(upTo(4)) + (upTo(2) == 0 ? "s" : "");
    }

    private String dayText() {
        StringBuilder day = new StringBuilder();
        int acts = upTo(12);
        for (int i = 0; i < acts; i++) {
            int q = upTo(20) == 0 ? upTo(10) : queue() & 7;
            switch (upTo(7)) {
                case 0: day.append('r').append(q); break;
                case 1: day.append('t').append(upTo(10)); break;
                case 2: day.append('k').append(q); break;
                case 3: day.append('c').append(q).append(0).append(upTo(10)); break;
                case 4: day.append(upTo(12) == 0 ? "x" : "t1"); break;
                default: day.append('p').append(q).append(upTo(5)).append(upTo(10)).append(10 + upTo(90)); break;
            }
        }
        String text = day.length() > 80 ? day.substring(0, 80) : day.toString();
        return upTo(6) == 0 ? spoiled(text) : text;
    }

    private String ruleText() {
        if (upTo(8) == 0) {
            return "";
        }
        String rule = expression(upTo(4));
        if (upTo(3) == 0) {
            rule = rule + "+-*/<>=".charAt(upTo(7)) + expression(3);
        }
        if (rule.length() > 80) {
            rule = rule.substring(0, 80);
        }
        return upTo(5) == 0 ? spoiled(rule) : rule;
    }

    private String expression(int deep) {
        switch (upTo(deep > 0 ? 8 : 3)) {
            case 0: return "" + upTo(1000);
            case 1: return "" + upTo(10);
            case 2: return "" + "obvqcdn".charAt(upTo(7));
            case 3: return "-" + expression(deep - 1);
            case 4: return "(" + expression(deep - 1) + "<>=".charAt(upTo(3)) + expression(deep - 1) + ")";
            case 5: return "(" + expression(deep - 1) + ")";
            default: return expression(deep - 1) + "+-*/".charAt(upTo(4)) + expression(deep - 1);
        }
    }

    private String spoiled(String text) {
        int at = upTo(text.length() + 1);
        switch (upTo(3)) {
            case 0: return text.substring(0, at);
            case 1: return at == text.length() ? text : text.substring(0, at) + text.substring(at + 1);
            default:
                String known = "0123456789-+*/<>=()obvqcdnsuhmlprtkcx";
                char more = upTo(2) == 0 ? (char) upTo(256) : known.charAt(upTo(known.length()));
                String longer = text.substring(0, at) + more + text.substring(at);
                return longer.length() > 80 ? longer.substring(0, 80) : longer;
        }
    }

    /** Whether a call, ahead of it perhaps THE TEXT, answers alike. */
    private boolean same(String text, String name, int... args) {
        if (text != null) {
            drive.text(text);
            model.text(text);
        }
        String got = drive.answer(name, args);
        String due = model.answer(name, args);
        StringBuilder line = new StringBuilder(name);
        for (int arg : args) {
            line.append(' ').append(arg);
        }
        if (text != null) {
            line.append(" \"").append(text).append('"');
        }
        told.add(line + " = " + got);
        if (!got.equals(due)) {
            told.add("  the model: " + due);
            return false;
        }
        return (upTo(looksAtRow) > 0 || sameRow()) && (upTo(looksAtCounts) > 0 || sameCounts());
    }

    private boolean sameRow() {
        List<String> got = drive.row();
        List<String> due = model.row();
        told.add("  the ROW: " + got);
        if (!got.equals(due)) {
            told.add("  the model: " + due);
            return false;
        }
        return true;
    }

    private boolean sameCounts() {
        for (int what = 0; what < 12; what++) {
            if (!sameNumber("count", what)) {
                return false;
            }
        }
        return true;
    }

    private boolean sameQueues() {
        for (int q = 0; q < plain.now.qs.size(); q++) {
            for (int what = 0; what < 13; what++) {
                if (!sameNumber("queue", q, what)) {
                    return false;
                }
            }
        }
        return true;
    }

    private boolean sameNumber(String name, int... args) {
        String got = drive.answer(name, args);
        String due = model.answer(name, args);
        if (!got.equals(due)) {
            told.add("  " + name + Arrays.toString(args) + " = " + got + ", the model: " + due);
            return false;
        }
        return true;
    }
}
