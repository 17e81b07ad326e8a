import com.sun.management.ThreadMXBean;
import java.lang.management.ManagementFactory;

/** A run of 512 of the dearest calls makes next to nothing: all rows are made once, with the object. */
public final class RoomTest {
    private static final Check CHECK = new Check("RoomTest");
    private static final int CALLS = 512;
    /** Room for the machine's own doings; 512 rows of 16 numbers alone would be more. */
    private static final long LIMIT = 20_000;

    public static void main(String[] args) {
        ThreadMXBean meter = (ThreadMXBean) ManagementFactory.getThreadMXBean();
        long thread = Thread.currentThread().getId();
        warmUp();
        long before = meter.getThreadAllocatedBytes(thread);
        OuterIdeals x = new OuterIdeals();
        long made = meter.getThreadAllocatedBytes(thread);
        callDearly(x);
        long after = meter.getThreadAllocatedBytes(thread);
        CHECK.holds("an object takes " + (made - before) + " bytes", made - before < 200_000);
        CHECK.holds("512 calls take " + (after - made) + " bytes", after - made < LIMIT);
        CHECK.end();
    }

    private static void warmUp() {
        callDearly(new OuterIdeals());
    }

    private static void callDearly(OuterIdeals x) {
        x.letters(4);
        x.prime(7);
        for (int i = 0; i < 4; i++) {
            x.set(i, 1 << i, 1);
            x.set(i, 15 - (1 << i), 3);
            x.generate(i);
        }
        x.event(1, 0);
        for (int call = 14; call < CALLS; call += 8) {
            x.order(call & 1);
            x.step(1);
            x.annihilator(2, 1, 2);
            x.after(2, 0);
            x.fits(2, 0, 1, 0);
            x.becomes(5, 4, 4);
            x.image();
            x.undo();
        }
    }
}
