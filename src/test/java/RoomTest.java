import com.sun.management.ThreadMXBean;
import java.lang.management.ManagementFactory;

/** What a run makes is kept small: an object's rows are made with it and with its images; other calls make none. */
public final class RoomTest {
    private static final int CALLS = 512;
    private static final long MOST_OF_AN_OBJECT = 32_000;

    public static void main(String[] args) {
        ThreadMXBean threads = (ThreadMXBean) ManagementFactory.getThreadMXBean();
        Check check = new Check();
        dearestCalls(made());
        long start = threads.getCurrentThreadAllocatedBytes();
        TempleRaised x = made();
        long ofObject = threads.getCurrentThreadAllocatedBytes() - start;
        dearestCalls(x);
        long ofCalls = threads.getCurrentThreadAllocatedBytes() - start - ofObject;
        System.out.println("an object with its images: " + ofObject + " bytes; its calls: " + ofCalls + " bytes");
        check.due("an object with three images is small", ofObject <= MOST_OF_AN_OBJECT, true);
        // The bound is not 0, as asking for the number makes something itself.
        check.due("calls make nothing", ofCalls <= 2 * CALLS, true);
        check.end();
    }

    private static TempleRaised made() {
        TempleRaised x = new TempleRaised();
        for (int k = 0; k < 3; k++) {
            x.image(k);
        }
        x.wall(8, 8);
        x.limit(10);
        return x;
    }

    private static void dearestCalls(TempleRaised x) {
        // One round less than there is room for, as made() has called too.
        for (int call = 0; call < CALLS / 8 - 1; call++) {
            x.plan();
            x.order();
            x.image(call % 3);
            x.take(63);
            x.like(call, call, call);
            x.piled(0, 0);
            x.again(call % 3);
            x.motifs(call % 8, 0);
        }
    }
}
