import com.sun.management.ThreadMXBean;
import java.lang.management.ManagementFactory;

/** All calls of one run live in one room: what the dearest ones make must stay far below it. */
public final class RoomTest {
    private static final ThreadMXBean THREADS = (ThreadMXBean) ManagementFactory.getThreadMXBean();

    public static void main(String[] args) {
        String[] programs = {"1 2 rmoveto " + "48*1 hlineto ".repeat(83) + "15*1 hlineto endchar"};
        int[] shelf = Checks.shelf(2, programs);
        CharOutlines warm = new CharOutlines();
        Checks.row(warm, shelf);
        warm.take(0);
        warm.run(0);

        dueBelow("one object with 512 calls", 1_000_000, () -> {
            CharOutlines x = new CharOutlines();
            Checks.row(x, shelf);
            for (int i = 0; i < 50; i++) {
                x.take(i % 3);
                x.take(0);
                x.run(0);
                x.mark(3999, 1);
            }
            return 0;
        });
        dueBelow("512 objects", 2_000_000, () -> {
            int lengths = 0;
            for (int i = 0; i < 512; i++) {
                lengths += new CharOutlines().feed(0, 0, 0, 0, 0);
            }
            return lengths;
        });
        Checks.finish();
    }

    private static void dueBelow(String what, long bytes, Checks.Call calls) {
        long before = THREADS.getCurrentThreadAllocatedBytes();
        calls.answer();
        long made = THREADS.getCurrentThreadAllocatedBytes() - before;
        Checks.due(what + ": " + made + " bytes are less than " + bytes, made < bytes ? 1 : 0, 1);
    }
}
