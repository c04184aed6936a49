import com.sun.management.ThreadMXBean;
import java.lang.management.ManagementFactory;

/** The room of a run: an object makes all of its rows when it is made; the calls behind it make next to nothing. */
public final class RoomTest {
    private static final ThreadMXBean THREADS = (ThreadMXBean) ManagementFactory.getThreadMXBean();
    private static final int CALLS = 512;
    private static final String[] NAMES = {
        "lake", "seeded", "holes", "image and restore", "order, joined, thin", "row, put, copy", "keep, freeze, thaw", "toss"
    };
    private static final Due due = new Due();

    public static void main(String[] args) {
        for (int warmUp = 0; warmUp < 2; warmUp++) {
            made();
            for (int which = 0; which < NAMES.length; which++) {
                used(which);
            }
        }
        long object = made();
        due.holds("an object has " + object + " bytes", object < 16 * 1024);
        for (int which = 0; which < NAMES.length; which++) {
            long bytes = used(which);
            // a failure that is thrown is an object with the machine's own trace
            long allowed = which == NAMES.length - 1 ? CALLS * 4096L : 4096L;
            due.holds(CALLS + " calls of " + NAMES[which] + " made " + bytes + " bytes", bytes < allowed);
        }
        due.end();
    }

    private static long made() {
        long before = THREADS.getCurrentThreadAllocatedBytes();
        SaidInWinter x = new SaidInWinter();
        long bytes = THREADS.getCurrentThreadAllocatedBytes() - before;
        return x.count(0) == 0 ? bytes : Long.MAX_VALUE;
    }

    private static long used(int which) {
        SaidInWinter x = Due.lakeOf("n0699;n1123;n2531;n3742;n4222;n5051;n0012;w;n1123;");
        Due.text(x, 0, "n0001;t1;c001;d;".repeat(6));
        x.keep(1, 1, 5, 5);
        x.row(2, 0, 100);
        long before = THREADS.getCurrentThreadAllocatedBytes();
        for (int i = 0; i < CALLS; i++) {
            call(x, which, i);
        }
        return THREADS.getCurrentThreadAllocatedBytes() - before;
    }

    private static void call(SaidInWinter x, int which, int i) {
        switch (which) {
            case 0 -> x.lake(0);
            case 1 -> x.seeded(40, i);
            case 2 -> x.holes(1023, 0);
            case 3 -> {
                x.image();
                x.restore();
            }
            case 4 -> {
                x.order(0);
                x.joined(0, 1);
                x.thin(1);
            }
            case 5 -> {
                x.row(3, 0, 100);
                x.put(3, 5, i);
                x.copy(3, 0, 2, 0, 100);
            }
            case 6 -> {
                x.keep(4, 1, i % 8, i % 10);
                x.freeze(4, i % 6, 5);
                x.thaw(1);
            }
            default -> x.toss(1);
        }
    }
}
