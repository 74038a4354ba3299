import com.sun.management.ThreadMXBean;
import java.lang.management.ManagementFactory;

/** What an object and its 512 dearest calls make stays far below the room of one run. */
public final class RoomTest {
    // 7.3 million elements of at most 8 bytes; a hundredth of it, so that many objects find room
    private static final long MOST_BYTES = 7_300_000L * 8 / 100;

    private RoomTest() {
    }

    public static void main(String[] args) {
        ThreadMXBean threads = (ThreadMXBean) ManagementFactory.getThreadMXBean();
        String[] calls = {"drains", "next", "asks", "fits", "resets", "served", "running", "outbox", "bells", "denies"};
        long most = 0;
        for (String call : calls) {
            most = Math.max(most, bytesOf(threads, call));
        }
        System.out.println("at most " + most + " bytes for an object and 512 calls of one kind");
        if (most > MOST_BYTES) {
            System.exit(1);
        }
    }

    private static long bytesOf(ThreadMXBean threads, String call) {
        long before = threads.getCurrentThreadAllocatedBytes();
        QueueDrive drive = new QueueDrive();
        drive.sign(0x38386800);
        drive.end(3);
        drive.queues();
        for (int i = 0; i < 6; i++) {
            drive.puts(0, 1, i, i);
        }
        drive.ring(0);
        for (int i = 0; i < 512; i++) {
            oneCall(drive, call, i);
        }
        return threads.getCurrentThreadAllocatedBytes() - before;
    }

    private static void oneCall(QueueDrive drive, String call, int i) {
        switch (call) {
            case "drains": drive.drains(); drive.years(i, 40); drive.would(3); break;
            case "next": drive.next(); drive.deals(60); drive.when(0, 3); break;
            case "asks": drive.asks(); drive.heard(1, 1); break;
            case "fits": drive.fits(); break;
            case "resets": drive.puts(0, 1, 1, 1); drive.resets(); drive.undo(); break;
            case "served": drive.served(); drive.room(0); drive.phases(0); drive.block(1); break;
            case "running": drive.running(); drive.waiting(0); drive.recall(0, 1); break;
            case "outbox": drive.outbox(); drive.ticks(60); drive.takes(0); break;
            case "bells": drive.bells(); drive.keep(0); drive.again(0); break;
            default: drive.sign(i); drive.law(); drive.sign(i); drive.day(); drive.sign(i); drive.rule(); break;
        }
    }
}
