import com.sun.management.ThreadMXBean;
import java.lang.management.ManagementFactory;

/** All calls of one run live in one room: what an object takes is made with it, and used again. */
public final class RoomTest {
    private static final int CALLS = 512;
    /** Some 61,000 numbers of four bytes, and what is small. */
    private static final long MOST_BYTES = 300_000;

    public static void main(String[] args) {
        ThreadMXBean meter = (ThreadMXBean) ManagementFactory.getThreadMXBean();
        run();
        long before = meter.getCurrentThreadAllocatedBytes();
        long hash = run();
        long bytes = meter.getCurrentThreadAllocatedBytes() - before;
        System.out.println("a run of " + CALLS + " calls makes " + bytes + " bytes; digest " + hash);
        if (bytes > MOST_BYTES) {
            System.exit(1);
        }
    }

    private static long run() {
        MakerLines x = new MakerLines();
        x.begin(10);
        for (int line = 0; line < 12; line++) {
            x.addLine(7 << line % 8 | 1 << (line * 7 + 3) % 10);
        }
        for (int call = 13; call < CALLS; call += 5) {
            x.take(call % 2);
            x.play(call % 4, (call + 1) % 4, 10);
            x.digest();
            x.restore(call % 2);
            x.skip();
        }
        return x.digest();
    }
}
