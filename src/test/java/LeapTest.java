/** Promises 23 to 26: leap, smeared, back, count. */
public final class LeapTest {
    private static final Check CHECK = new Check("LeapTest");

    public static void main(String[] args) {
        leap();
        smearedMore();
        smearedLess();
        smearedWide();
        smearedBad();
        back();
        backByCounting();
        count();
        CHECK.end();
    }

    private static void leap() {
        DoubtTime x = Check.laid("s1000000000000,1000,1000000000,1;");
        long[] want = {Check.BILLIONS, 1000, 1000000000, 1};
        for (int what = 0; what < want.length; what++) {
            CHECK.due(23, "leap(" + what + ")", x.leap(what), want[what]);
        }
        int[] bad = {-1, 4, Integer.MIN_VALUE, Integer.MAX_VALUE};
        for (int what : bad) {
            CHECK.due(23, "leap(" + what + ")", x.leap(what), DoubtTime.BAD);
        }
    }

    private static void smearedMore() {
        DoubtTime x = Check.laid("s10,3,4,0;");
        long[] ticks = {0, 9, 10, 11, 12, 13, 14, 15, 100};
        long[] want = {0, 9, 10, 11, 13, 15, 17, 18, 103};
        for (int i = 0; i < ticks.length; i++) {
            CHECK.due(24, "KIND 0: smeared(" + ticks[i] + ")", x.smeared(ticks[i]), want[i]);
        }
        long far = 2 * Check.BILLIONS;
        CHECK.due(24, "smeared(2 10^12)", x.smeared(far), far + 3);
    }

    private static void smearedLess() {
        DoubtTime x = Check.laid("s10,3,4,1;");
        long[] ticks = {0, 9, 10, 11, 12, 13, 14, 15, 100};
        long[] want = {0, 9, 10, 11, 11, 11, 11, 12, 97};
        for (int i = 0; i < ticks.length; i++) {
            CHECK.due(24, "KIND 1: smeared(" + ticks[i] + ")", x.smeared(ticks[i]), want[i]);
        }
        DoubtTime y = Check.laid("s0,1000,1001,1;");
        CHECK.due(24, "smeared(0)", y.smeared(0), 0);
        CHECK.due(24, "smeared(1000)", y.smeared(1000), 1);
        CHECK.due(24, "smeared(1001)", y.smeared(1001), 1);
        CHECK.due(24, "smeared(1002)", y.smeared(1002), 2);
    }

    private static void smearedWide() {
        DoubtTime x = Check.laid("s1000000000000,1000,1000000000,0;");
        CHECK.due(24, "ahead of the first", x.smeared(Check.BILLIONS + 999999), Check.BILLIONS + 999999);
        CHECK.due(24, "the first", x.smeared(Check.BILLIONS + 1000000), Check.BILLIONS + 1000001);
        CHECK.due(24, "one ahead of the end", x.smeared(Check.BILLIONS + 999999999), Check.BILLIONS + 1000000998);
        CHECK.due(24, "the end", x.smeared(Check.BILLIONS + 1000000000), Check.BILLIONS + 1000001000);
    }

    private static void smearedBad() {
        DoubtTime x = new DoubtTime();
        long[] bad = {-1, 2 * Check.BILLIONS + 1, Long.MIN_VALUE, Long.MAX_VALUE};
        for (long tick : bad) {
            CHECK.due(24, "smeared(" + tick + ")", x.smeared(tick), Check.LONG_BAD);
            CHECK.due(25, "back(" + tick + ")", x.back(tick), DoubtTime.BAD);
        }
    }

    private static void back() {
        long far = 2 * Check.BILLIONS;
        DoubtTime x = Check.laid("s10,3,4,0;");
        long[] ticks = {0, 10, 11, 12, 13, 14, 15, 16, 17, 18, far};
        long[] want = {0, 10, 11, 12, 12, 13, 13, 14, 14, 15, far - 3};
        for (int i = 0; i < ticks.length; i++) {
            CHECK.due(25, "KIND 0: back(" + ticks[i] + ")", x.back(ticks[i]), want[i]);
        }
        DoubtTime y = Check.laid("s10,3,4,1;");
        long[] wantLess = {0, 10, 11, 15, 16, 17, 18, 19, 20, 21, far + 3};
        for (int i = 0; i < ticks.length; i++) {
            CHECK.due(25, "KIND 1: back(" + ticks[i] + ")", y.back(ticks[i]), wantLess[i]);
        }
        DoubtTime z = Check.laid("s0,1000,1001,0;");
        CHECK.due(25, "back(0)", z.back(0), 0);
        CHECK.due(25, "back(1)", z.back(1), 1);
        CHECK.due(25, "back(2)", z.back(2), 2);
        CHECK.due(25, "back(2001)", z.back(2001), 1001);
        CHECK.due(25, "back(2000)", z.back(2000), 1001);
        CHECK.due(25, "back(1999)", z.back(1999), 1000);
    }

    /** Counts up TICK by TICK to the least that is SMEARED far enough. */
    private static void backByCounting() {
        String[] leaps = {"s0,1,2,0;", "s0,1,2,1;", "s7,5,6,0;", "s7,5,6,1;", "s20,30,97,0;", "s20,30,97,1;",
            "s50,1000,1001,0;", "s50,1000,1001,1;", "s3,999,1500,0;", "s3,999,1500,1;"};
        for (String leap : leaps) {
            // Made anew now and then: what an object answers behind 512 calls is free.
            DoubtTime x = Check.laid(leap);
            long[] smeared = new long[4100];
            for (int t = 0; t < smeared.length; t++) {
                x = t % 400 == 0 ? Check.laid(leap) : x;
                smeared[t] = x.smeared(t);
            }
            int least = 0;
            for (int v = 0; v <= 3000; v++) {
                x = v % 400 == 0 ? Check.laid(leap) : x;
                while (smeared[least] < v) {
                    least++;
                }
                CHECK.due(25, leap + " back(" + v + ")", x.back(v), least);
            }
        }
    }

    private static void count() {
        DoubtTime x = new DoubtTime();
        int[] bad = {-1, 8, Integer.MIN_VALUE, Integer.MAX_VALUE};
        for (int what : bad) {
            CHECK.due(26, "count(" + what + ")", x.count(what), DoubtTime.BAD);
        }
        Check.put(x, "abc");
        x.commit(0, 0);
        x.go(8);
        x.commit(0, 0);
        x.commit(0, 0);
        x.strike(3, 1);
        x.drift(77);
        x.tell(4, 0, 0);
        long[] want = {8, 77, 4, 1, 3, 2, 6, 3};
        for (int what = 0; what < want.length; what++) {
            CHECK.due(26, "count(" + what + ")", x.count(what), want[what]);
        }
    }
}
