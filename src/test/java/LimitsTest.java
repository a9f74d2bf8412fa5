import com.sun.management.ThreadMXBean;
import java.lang.management.ManagementFactory;

/** No call throws, whatever its numbers; calls make no objects; the dearest runs end soon. */
public final class LimitsTest {
    private static final Check CHECK = new Check("LimitsTest");
    private static final int[] INTS = {Integer.MIN_VALUE, -2, -1, 0, 1, 2, 3, 4, 5, 6, 7, 8, 15, 16, 17, 31, 32,
        59, 100, 126, 127, 200, 5000, 5001, 999999, 1000000, Integer.MAX_VALUE};
    private static final long[] LONGS = {Long.MIN_VALUE, -2000000000001L, -1, 0, 1, 999, 1000, 1005, 1500, 1601,
        999999999999L, 1000000000000L, 1000000000001L, 2000000000000L, 2000000000001L, Long.MAX_VALUE};

    public static void main(String[] args) {
        anyNumbers(new DoubtTime());
        anyNumbers(Check.laid("d1;s0,1,2,0;"));
        anyNumbers(full("d999999;m0,0,0;s1000000000000,1000,1000000000,1;"));
        anyNumbers(full("d0;m5,1000000000000,1000000000000;s0,1000,1001,0;"));
        farEnds();
        noObjects();
        dearRuns();
        CHECK.end();
    }

    /** With 16 COMMITS and 200 letters. */
    private static DoubtTime full(String text) {
        DoubtTime x = Check.laid(text);
        for (int c = 0; c < 16; c++) {
            x.commit(c % 6, c);
        }
        while (x.count(7) < 200) {
            x.write('9');
        }
        return x;
    }

    private static void anyNumbers(DoubtTime x) {
        for (int a : INTS) {
            for (int b : INTS) {
                askInts(x, a, b);
            }
            for (long tick : LONGS) {
                askLongs(x, a, tick);
            }
        }
        CHECK.isTrue("LOCAL never goes back", x.count(0) >= 0);
        CHECK.isTrue("no more than 16 COMMITS", x.count(4) <= 16);
        CHECK.isTrue("no more than 200 letters", x.count(7) <= 200);
    }

    private static void askInts(DoubtTime x, int a, int b) {
        x.write(a);
        x.fault();
        x.strike(a, b);
        x.strikeLiars();
        x.drift(a);
        x.go(b);
        x.undo();
        x.span(a, b);
        x.agreed(a);
        x.good();
        x.liars();
        x.commit(a, b);
        x.commitOf(a, b);
        x.waiting(a);
        x.safe();
        x.leap(a);
        x.count(a);
    }

    private static void askLongs(DoubtTime x, int a, long tick) {
        x.in(tick);
        x.read(a, tick);
        x.smeared(tick);
        x.back(tick);
        for (long to : LONGS) {
            x.tell(a, tick, to);
            x.between(a, tick, to);
        }
        x.lay();
        x.wipe();
    }

    /** As late as 512 calls can bring it, with the latest that a MASTER can tell. */
    private static void farEnds() {
        DoubtTime x = Check.laid("d999999;m0,1000000000000,1000000000000;");
        for (int i = 0; i < 460; i++) {
            x.go(5000);
        }
        CHECK.due(12, "begin", x.span(0, 0), Check.BILLIONS + 2);
        CHECK.due(12, "end", x.span(0, 1), Check.BILLIONS + 2 * 2300000L - 2);
        CHECK.due(17, "commit", x.commit(0, 1), 0);
        CHECK.due(18, "its STAMP", x.commitOf(0, 2), Check.BILLIONS + 2 * 2300000L - 2);
        CHECK.due(19, "waiting", x.waiting(0), DoubtTime.NONE);
        CHECK.due(15, "in", x.in(Check.BILLIONS + 2), 1);
    }

    private static void noObjects() {
        ThreadMXBean threads = (ThreadMXBean) ManagementFactory.getThreadMXBean();
        long me = Thread.currentThread().getId();
        DoubtTime x = full("d1000;m0,990,1010;m1,1000,1030;m2,995,1005;m3,2000,2010;");
        long before = threads.getThreadAllocatedBytes(me);
        for (int i = 0; i < 3000; i++) {
            askInts(x, i % 7, i % 3);
            x.tell(i % 6, 1000, 1010);
            x.read(0, 1005);
            x.between(-1, 0, 2000);
            x.back(1550);
        }
        long made = threads.getThreadAllocatedBytes(me) - before;
        CHECK.isTrue("calls make no objects, but " + made + " bytes", made < 10000);
    }

    /** Six MASTERS HEARD and 16 COMMITS that stay OPEN; 22 calls. */
    private static DoubtTime dear() {
        DoubtTime x = new DoubtTime();
        for (int m = 0; m < 6; m++) {
            x.tell(m, m, 1000000000);
        }
        for (int c = 0; c < 16; c++) {
            x.commit(0, c);
        }
        return x;
    }

    private static void dearRuns() {
        long start = System.nanoTime();
        DoubtTime x = dear();
        DoubtTime y = dear();
        for (int i = 0; i < 490; i++) {
            CHECK.due(10, "go(5000)", x.go(5000), 0);
            CHECK.due(19, "waiting(15)", y.waiting(15), DoubtTime.NONE);
        }
        long millis = (System.nanoTime() - start) / 1000000;
        CHECK.isTrue("dear runs end soon, but took " + millis + " ms", millis < 30000);
        System.out.println("LimitsTest: dear runs took " + millis + " ms");
    }
}
