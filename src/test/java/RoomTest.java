import com.sun.management.ThreadMXBean;
import java.lang.management.ManagementFactory;

/** All calls of a run share one room: the rows are made with the object, and no call makes more. */
public final class RoomTest {
    private static final Due due = new Due("RoomTest");
    private static final ThreadMXBean threads = (ThreadMXBean) ManagementFactory.getThreadMXBean();
    /** Far below the room of 7.3 million elements, of 8 bytes each at most. */
    private static final long MOST_FOR_AN_OBJECT = 400000, MOST_FOR_ITS_CALLS = 50000;

    public static void main(String[] args) {
        dearestRun(made());
        long start = bytes();
        GlacierYears x = made();
        long made = bytes();
        dearestRun(x);
        long end = bytes();
        due.holds("an object takes " + (made - start) + " bytes", made - start < MOST_FOR_AN_OBJECT);
        due.holds("its calls take " + (end - made) + " bytes", end - made < MOST_FOR_ITS_CALLS);
        due.end();
    }

    private static long bytes() {
        return threads.getThreadAllocatedBytes(Thread.currentThread().getId());
    }

    private static GlacierYears made() {
        return new GlacierYears();
    }

    private static void dearestRun(GlacierYears x) {
        for (int s = 0; s < 8; s++) x.strip(s, 2, 8);
        for (int i = 0; i < 100; i++) {
            x.ground(8, 8);
            x.tell(false, 0, i);
            x.rule(100, 1000);
            x.steady(60);
            x.turn(1);
            x.back();
        }
    }
}
