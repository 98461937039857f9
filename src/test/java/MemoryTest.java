import com.sun.management.ThreadMXBean;
import java.lang.management.ManagementFactory;

/** "All memory is rows made once": calls that are not refused make no objects. */
public final class MemoryTest {
    private static final int SMALL = 20_000;

    public static void main(String[] args) {
        Check check = new Check("MemoryTest");
        if (ManagementFactory.getThreadMXBean() instanceof ThreadMXBean bytes
                && bytes.isThreadAllocatedMemorySupported()) {
            long self = Thread.currentThread().getId();
            use(world());
            SendBest x = world();
            long before = bytes.getThreadAllocatedBytes(self);
            use(x);
            long made = bytes.getThreadAllocatedBytes(self) - before;
            // a single row in each of the 12,000 calls would be far more
            check.due("bytes made by calls: " + made, made < SMALL ? 1 : 0, 1);
        } else {
            System.out.println("this machine does not count bytes");
        }
        check.end();
    }

    private static SendBest world() {
        SendBest x = new SendBest();
        for (int i = 0; i < 6; i++) {
            x.incident(1 + i);
        }
        for (int u = 0; u < 12; u++) {
            x.unit(65535);
        }
        for (int d = 0; d < 10; d++) {
            x.need(d % 6, d, 1);
        }
        return x;
    }

    private static void use(SendBest x) {
        for (int k = 0; k < 1000; k++) {
            x.seconds(k % 12, k % 6, k * 7919 % 1000);
            x.rank(k % 6, 1 + k % 9);
            x.reserve(k % 5, 1 + k % 10);
            x.limit(k % 16, k % 3 == 0 ? -1 : 800);
            x.need(0, 0, 0);
            x.broken(11, k % 2 == 0);
            x.send(k % 50);
            x.sum(k % 2);
            x.needAt(k % 10, 2);
            x.fills(k % 12);
            x.alternative(k % 10);
            x.never(k % 3);
        }
    }
}
