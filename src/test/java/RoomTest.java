import com.sun.management.ThreadMXBean;
import java.lang.management.ManagementFactory;

/** LANGUAGE.md, rule 12: what 512 calls make is small, whichever the method is. */
public final class RoomTest {
    /** The room of one run: 7.3 million fields and elements, of at least four bytes each. */
    private static final long ROOM = 7300000L * 4;
    private static final int[] DEAREST = {1, 2, 0, 3, 4, 12, 16, 20, 32, 40, 64, 1999};

    public static void main(String[] args) {
        ThreadMXBean threads = (ThreadMXBean) ManagementFactory.getThreadMXBean();
        for (int method = 0; method < Probes.methods(); method++) {
            for (int first : DEAREST) {
                long before = threads.getThreadAllocatedBytes(Thread.currentThread().getId());
                call(method, first);
                long made = threads.getThreadAllocatedBytes(Thread.currentThread().getId()) - before;
                Check.holds("512 calls of " + Probes.name(method) + " make " + made + " bytes", made < ROOM);
            }
        }
        Check.end("RoomTest");
    }

    private static void call(int method, int first) {
        Probes x = Check.busy();
        x.clear();
        Check.typed(x, "plan 2 2 2 2;cross (((1)9)9)4;cross (1 2 (3)4)5;cross ((((1)2)2)2)2; x");
        x.steps(32);
        while (x.callsLeft() > 0) {
            int second = first % 3;
            switch (Probes.parameters(method)) {
                case 0: x.call(method); break;
                case 1: x.call(method, first); break;
                case 2: x.call(method, first, second); break;
                default: x.call(method, first, second, second);
            }
        }
    }
}
