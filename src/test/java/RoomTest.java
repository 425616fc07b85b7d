import java.lang.management.ManagementFactory;

/** What the calls make: an object is small, and 512 calls of the dearest kinds make nothing and soon end. */
final class RoomTest {
    private static final int CALLS = 512;
    private static final long MOST_BYTES_OF_AN_OBJECT = 10000;
    /** The measuring itself makes a little. */
    private static final long MOST_BYTES_OF_CALLS = 4000;
    private static final long MOST_SECONDS = 120;

    public static void main(String[] args) {
        measure();
        long start = System.nanoTime();
        long before = bytes();
        FlameBend x = new FlameBend();
        long ofObject = bytes() - before;
        before = bytes();
        run(x);
        long ofCalls = bytes() - before;
        long seconds = (System.nanoTime() - start) / 1000000000L;
        boolean good = ofObject <= MOST_BYTES_OF_AN_OBJECT && ofCalls <= MOST_BYTES_OF_CALLS && seconds <= MOST_SECONDS;
        System.out.println("RoomTest: an object takes " + ofObject + " bytes, " + CALLS + " calls " + ofCalls + " bytes, "
            + seconds + " s");
        System.exit(good ? 0 : 1);
    }

    /** Once ahead, so that what is loaded for it is not counted. */
    private static void measure() {
        run(new FlameBend());
        bytes();
    }

    private static long bytes() {
        com.sun.management.ThreadMXBean bean =
            (com.sun.management.ThreadMXBean) ManagementFactory.getThreadMXBean();
        return bean.getThreadAllocatedBytes(Thread.currentThread().getId());
    }

    private static void run(FlameBend x) {
        int calls = 0;
        for (int i = 0; i < 7; i++, calls++) {
            x.weld(i, 67 * i - 200);
        }
        for (int i = 0; i < 10; i++, calls++) {
            x.item(i % 8, 1 + i % 9, i % 2 == 0, i % 3 == 0);
        }
        for (int k = 0; k < 12; k++) {
            x.say(k % 2 == 0 ? 'v' : 'h');
            x.say('1' + k % 4);
            x.say('1' + k * 5 % 9);
            x.take();
            calls += 4;
        }
        for (int k = 0; calls + 7 <= CALLS; k++) {
            x.wish(k * 7 % 36, k * 7919 % 2000 - 1000);
            x.order(k % 8 - 1);
            x.chosen(3000 + k, k % 2);
            x.shared(2 + k % 2, k % 13 - 1);
            x.steps(k % 2);
            x.read(k % 36, k);
            x.skill(k % 2);
            calls += 7;
        }
    }
}
