import java.lang.management.ManagementFactory;

/** All calls of a run share one room: an object is made of some rows, and its calls make nothing more. */
public final class RoomTest {
    private static final com.sun.management.ThreadMXBean THREADS =
            (com.sun.management.ThreadMXBean) ManagementFactory.getThreadMXBean();

    public static void main(String[] args) {
        // The first round loads classes; the second one is measured.
        long made = 0;
        long called = 0;
        for (int round = 0; round < 2; round++) {
            long start = bytes();
            OrganBarrel x = new OrganBarrel();
            long between = bytes();
            calls(x);
            called = bytes() - between;
            made = between - start;
        }
        System.out.println("an object takes " + made + " bytes, its 500 calls " + called);
        Check.that("an object takes less than 40,000 bytes", made < 40_000);
        Check.that("500 calls take less than 2,000 bytes", called < 2_000);
        Check.end();
    }

    private static long bytes() {
        return THREADS.getThreadAllocatedBytes(Thread.currentThread().getId());
    }

    private static void calls(OrganBarrel x) {
        x.barrel(24, 6, 3);
        for (int i = 0; i < 12; i++) {
            for (int t = 0; t < 3; t++) {
                x.note(t, i % 6, 2 * i, 1);
            }
        }
        String text = "t0 24:0 0 2,1 3 1;p0;h1 3;e1;g2 2;";
        for (int i = 0; i < text.length(); i++) {
            x.type(text.charAt(i));
        }
        for (int i = 0; i < 40; i++) {
            x.settles();
            x.pins(i % 3);
            x.plays(i % 3, 3);
            x.wrong(i % 3);
            x.fits(i % 3);
            x.all(i % 7);
            x.mends(i);
            x.reads();
            x.digest();
            x.back();
        }
    }
}
