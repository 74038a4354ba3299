import java.util.Random;

/** Whatever the arguments and whatever the state: a call throws nothing but what the document says. */
public final class WildTest {
    private static final int[] WILD = {
        Integer.MIN_VALUE, Integer.MIN_VALUE + 1, -65536, -100, -9, -1, 0, 1, 2, 3, 4, 5, 7, 8, 9, 10, 11, 12, 13, 15,
        16, 39, 40, 41, 60, 61, 99, 100, 65536, Integer.MAX_VALUE - 1, Integer.MAX_VALUE,
    };
    private static final String[] NAMES = {
        "sign 1", "end 1", "queues 0", "rule 0", "queue 2", "sheet 4", "puts 4", "ring 1", "ticks 1", "takes 1",
        "calls 2", "resets 0", "weighs 2", "depth 1", "day 0", "undo 0", "waiting 1", "running 0", "outbox 0",
        "phases 1", "room 1", "block 1", "next 0", "deals 1", "when 2", "drains 0", "would 1", "needs 1", "bells 0",
        "recall 2", "served 0", "heard 2", "denies 0", "fits 0", "asks 0", "laps 3", "law 0", "years 2", "keep 1",
        "again 1", "count 1", "row 1",
    };
    private static final int RUNS = 1200;
    // a text of 76 signs takes 21 calls
    private static final int LONGEST_STEP = 24;
    private static final String SIGNS = "0123456789prtkcxuhmls+-*/()<>=obvqcdn";

    private WildTest() {
    }

    public static void main(String[] args) {
        for (int run = 0; run < RUNS; run++) {
            Random random = new Random(run);
            Calls drive = Calls.onNew();
            while (drive.left() > LONGEST_STEP) {
                oneCall(drive, random);
            }
        }
        System.out.println("nothing was thrown but what is due");
    }

    private static void oneCall(Calls drive, Random random) {
        String[] call = NAMES[random.nextInt(NAMES.length)].split(" ");
        boolean mayThrow = call[0].equals("queue") || call[0].equals("row");
        int[] args = new int[Integer.parseInt(call[1])];
        for (int i = 0; i < args.length; i++) {
            args[i] = random.nextInt(3) == 0 ? WILD[random.nextInt(WILD.length)] : random.nextInt(6);
        }
        if (random.nextInt(3) == 0) {
            text(drive, random);
        }
        String answer = drive.answer(call[0], args);
        if (answer.equals(Calls.THROWS) && !mayThrow) {
            throw new IllegalStateException(call[0] + " threw");
        }
    }

    private static void text(Calls drive, Random random) {
        String[] started = {"88h", "22us", "42m", "p01155r0t2k0", "p02000p03000r0t1", "1+", "(o<1)*", "n/d-", ""};
        StringBuilder text = new StringBuilder(started[random.nextInt(started.length)]);
        int more = random.nextInt(4) == 0 ? random.nextInt(60) : 0;
        for (int i = 0; i < more; i++) {
            text.append(random.nextInt(20) == 0 ? (char) random.nextInt(256) : SIGNS.charAt(random.nextInt(SIGNS.length())));
        }
        drive.text(text.toString());
    }
}
