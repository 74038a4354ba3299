import com.sun.management.ThreadMXBean;
import java.lang.management.ManagementFactory;
import java.util.List;
import java.util.function.Consumer;

/** What an object and its 512 dearest calls make stays far below the room of one run. */
public final class RoomTest {
    // 7.3 million elements of at most 8 bytes; a hundredth of it, so that many objects find room
    private static final long MOST_BYTES = 7_300_000L * 8 / 100;
    private static final int FIRST_CALLS = 10;

    /** Calls that are made one behind another, again and again. */
    private static final List<List<Consumer<QueueDrive>>> KINDS = List.of(
        List.of(QueueDrive::drains),
        List.of(d -> d.years(7, 40)),
        List.of(d -> d.would(3)),
        List.of(QueueDrive::next, d -> d.deals(60), d -> d.when(0, 3)),
        List.of(QueueDrive::asks),
        List.of(d -> d.heard(1, 1), QueueDrive::fits, QueueDrive::denies),
        List.of(d -> d.puts(0, 1, 1, 1), QueueDrive::resets, QueueDrive::undo),
        List.of(QueueDrive::served, d -> d.room(0), d -> d.phases(0), d -> d.block(1)),
        List.of(QueueDrive::running, d -> d.waiting(0), d -> d.recall(0, 1)),
        List.of(QueueDrive::outbox, d -> d.ticks(60), d -> d.takes(0)),
        List.of(QueueDrive::bells, d -> d.keep(0), d -> d.again(0)),
        List.of(d -> d.sign(0x312b3131), QueueDrive::law),
        List.of(d -> d.sign(0x312b3131), QueueDrive::rule),
        List.of(d -> d.sign(0x74397439), QueueDrive::day));

    private RoomTest() {
    }

    public static void main(String[] args) {
        ThreadMXBean threads = (ThreadMXBean) ManagementFactory.getThreadMXBean();
        long most = 0;
        for (List<Consumer<QueueDrive>> kind : KINDS) {
            most = Math.max(most, bytesOf(threads, kind));
        }
        System.out.println("at most " + most + " bytes for an object and 512 calls of one kind");
        if (most > MOST_BYTES) {
            System.exit(1);
        }
    }

    private static long bytesOf(ThreadMXBean threads, List<Consumer<QueueDrive>> kind) {
        long before = threads.getCurrentThreadAllocatedBytes();
        QueueDrive drive = new QueueDrive();
        drive.sign(0x38386800);
        drive.end(3);
        drive.queues();
        for (int i = 0; i < 6; i++) {
            drive.puts(0, 1, i, i);
        }
        drive.ring(0);
        for (int i = 0; i < Calls.MOST - FIRST_CALLS; i++) {
            kind.get(i % kind.size()).accept(drive);
        }
        return threads.getCurrentThreadAllocatedBytes() - before;
    }
}
