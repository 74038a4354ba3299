import java.util.ArrayList;
import java.util.List;

/** What an object shows of itself, in parts that are asked of twins, so that none is used for too many calls. */
final class Look {
    static final int PARTS = 6;

    private static final int[] ALL_BUT_ROW = {0, 1, 2, 3, 4, 5, 6, 7, 8, 9, 11};

    private Look() {
    }

    static List<String> at(Calls drive, int part) {
        List<String> seen = new ArrayList<>();
        switch (part) {
            case 0:
                glance(drive, seen);
                ringsAndBlocks(drive, seen);
                break;
            case 1:
                eachCommand(drive, seen);
                break;
            case 2:
                goOn(drive, seen);
                break;
            case 3:
                goBack(drive, seen);
                break;
            default:
                seen.add("again " + drive.answer("again", part - 4));
                glance(drive, seen);
                break;
        }
        return seen;
    }

    private static int queues(Calls drive) {
        return Integer.parseInt(drive.answer("count", 0));
    }

    private static void glance(Calls drive, List<String> seen) {
        for (int what : ALL_BUT_ROW) {
            seen.add("count " + drive.answer("count", what));
        }
        int queues = queues(drive);
        for (int q = 0; q < queues; q++) {
            for (int what = 4; what < 13; what++) {
                seen.add("queue " + drive.answer("queue", q, what));
            }
        }
        for (int b = 0; b < 10; b++) {
            seen.add("block " + drive.answer("block", b));
        }
        seen.add(drive.answerAndRow("running"));
        seen.add(drive.answerAndRow("outbox"));
        seen.add(drive.answerAndRow("bells"));
        seen.add(drive.answerAndRow("deals", 17));
    }

    private static void ringsAndBlocks(Calls drive, List<String> seen) {
        int queues = queues(drive);
        for (int q = 0; q < queues; q++) {
            seen.add(drive.answerAndRow("waiting", q));
        }
    }

    private static void eachCommand(Calls drive, List<String> seen) {
        int queues = queues(drive);
        for (int q = 0; q < queues; q++) {
            for (int id = 0; id < 16; id++) {
                seen.add("recall " + drive.answer("recall", q, id));
            }
            seen.add(drive.answerAndRow("phases", q));
            seen.add(drive.answerAndRow("room", q));
        }
        seen.add(drive.answerAndRow("fits"));
        seen.add(drive.answerAndRow("asks"));
    }

    private static void goOn(Calls drive, List<String> seen) {
        seen.add("puts " + drive.answer("puts", 0, 1, 3, 50));
        drive.text("r0r1r2r3r4");
        seen.add(drive.answerAndRow("day"));
        seen.add(drive.answerAndRow("ticks", 3));
        glance(drive, seen);
    }

    private static void goBack(Calls drive, List<String> seen) {
        int queues = queues(drive);
        for (int i = 0; i < 9; i++) {
            seen.add("undo " + drive.answer("undo"));
            seen.add("ticks " + drive.answer("count", 5) + ", held " + drive.answer("count", 7));
            seen.add(drive.answerAndRow("running"));
            for (int q = 0; q < queues; q++) {
                seen.add("written " + drive.answer("queue", q, 4) + ", taken " + drive.answer("queue", q, 10));
            }
        }
    }
}
