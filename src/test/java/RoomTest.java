import com.sun.management.ThreadMXBean;
import java.lang.management.ManagementFactory;

/** One run of dear calls makes far less than the room has: some 7.3 million elements. */
public final class RoomTest {
    private static final long BYTES_DUE = 2_000_000;

    public static void main(String[] args) {
        ThreadMXBean threads = (ThreadMXBean) ManagementFactory.getThreadMXBean();
        StringBuilder value = new StringBuilder();
        for (int i = 0; i < 8000; i++) {
            value.append('v');
        }
        Made made = new Made().node("").property(0, value.toString()).close().last();
        byte[] row = made.row("p\0");
        dearRun(row);
        long before = threads.getCurrentThreadAllocatedBytes();
        dearRun(row);
        long used = threads.getCurrentThreadAllocatedBytes() - before;
        Check.isTrue("a run that makes " + used + " bytes makes few", used < BYTES_DUE);
        Check.finish();
    }

    private static void dearRun(byte[] row) {
        TreePress x = new TreePress();
        Check.same("read", TreePress.NONE, Check.read(x, row));
        for (int i = 0; i < 80; i++) {
            Check.same("lay", row.length, x.lay());
        }
    }
}
