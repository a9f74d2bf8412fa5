/** Promises 1 to 5: a new object, write, wipe, fault, lay. */
public final class TextTest {
    private static final Check CHECK = new Check("TextTest");

    public static void main(String[] args) {
        aNewObject();
        write();
        wipe();
        faultOfShapes();
        faultOfNumbers();
        faultOfRanges();
        lay();
        layForgets();
        layRefused();
        CHECK.end();
    }

    private static void aNewObject() {
        DoubtTime x = new DoubtTime();
        long[] counts = {0, 1000, 4, 0, 0, 0, 0, 0};
        for (int what = 0; what < counts.length; what++) {
            CHECK.due(1, "count(" + what + ")", x.count(what), counts[what]);
        }
        long[] begins = {990, 1000, 995, 2000, Check.LONG_NO, Check.LONG_NO};
        long[] ends = {1010, 1030, 1005, 2010, Check.LONG_NO, Check.LONG_NO};
        for (int m = 0; m < 6; m++) {
            CHECK.due(1, "span(" + m + ", 0)", x.span(m, 0), begins[m]);
            CHECK.due(1, "span(" + m + ", 1)", x.span(m, 1), ends[m]);
        }
        long[] leap = {1500, 1, 100, 0};
        for (int what = 0; what < leap.length; what++) {
            CHECK.due(1, "leap(" + what + ")", x.leap(what), leap[what]);
        }
        CHECK.due(1, "undo()", x.undo(), DoubtTime.NO);
        CHECK.due(1, "wipe()", x.wipe(), 0);
        CHECK.due(1, "BAD", DoubtTime.BAD, -1);
        CHECK.due(1, "NO", DoubtTime.NO, -2);
        CHECK.due(1, "FULL", DoubtTime.FULL, -3);
        CHECK.due(1, "NONE", DoubtTime.NONE, -4);
    }

    private static void write() {
        DoubtTime x = new DoubtTime();
        int[] none = {31, 127, 0, -1, 128, 65536 + 100, Integer.MIN_VALUE, Integer.MAX_VALUE};
        for (int letter : none) {
            CHECK.due(2, "write(" + letter + ")", x.write(letter), DoubtTime.BAD);
        }
        CHECK.due(2, "count(7) behind BAD", x.count(7), 0);
        CHECK.due(2, "write(32)", x.write(32), 1);
        CHECK.due(2, "write(126)", x.write(126), 2);
        for (int i = 3; i <= 200; i++) {
            CHECK.due(2, "write('d')", x.write('d'), i);
        }
        CHECK.due(2, "write beyond 200", x.write('d'), DoubtTime.FULL);
        CHECK.due(2, "BAD ahead of FULL", x.write(127), DoubtTime.BAD);
        CHECK.due(2, "count(7)", x.count(7), 200);
        CHECK.due(2, "count(6): a letter is no change", x.count(6), 0);
    }

    private static void wipe() {
        DoubtTime x = new DoubtTime();
        CHECK.due(3, "wipe() of none", x.wipe(), 0);
        Check.put(x, "d5;");
        CHECK.due(3, "wipe()", x.wipe(), 3);
        CHECK.due(3, "count(7)", x.count(7), 0);
        CHECK.due(3, "fault()", x.fault(), DoubtTime.NONE);
        Check.put(x, "m");
        CHECK.due(3, "fault() of what came behind it", x.fault(), 0);
        CHECK.due(3, "wipe() again", x.wipe(), 1);
    }

    private static void fault(String text, int want) {
        DoubtTime x = new DoubtTime();
        Check.put(x, text);
        CHECK.due(4, "fault() of " + text, x.fault(), want);
        CHECK.due(4, "count(7) of " + text, x.count(7), text.length());
        CHECK.due(4, "count(1) of " + text, x.count(1), 1000);
    }

    private static void faultOfShapes() {
        int none = DoubtTime.NONE;
        fault("", none);
        fault("d1;", none);
        fault("m0,1,2;", none);
        fault("s1,1,2,0;", none);
        fault("d1;d2;m5,0,0;m5,0,0;s0,1,2,1;s5,1,2,0;", none);
        fault(";", 0);
        fault("d1;;", 3);
        fault("d1", 0);
        fault("d", 0);
        fault("d;", 0);
        fault("d1;d2", 3);
        fault("d1;m0,1,2", 3);
        fault("d1;m0,1,2;x", 10);
        fault("d1;m0,1,2; d1;", 10);
        fault(" d1;", 0);
        fault("d 1;", 0);
        fault("d1 ;", 0);
        fault("D1;", 0);
        fault("d-1;", 0);
        fault("d+1;", 0);
        fault("d1,2;", 0);
        fault("d1,;", 0);
        fault("m0,1;", 0);
        fault("m0,1,2,3;", 0);
        fault("m0,,2;", 0);
        fault("m,1,2;", 0);
        fault("m0;1;2;", 0);
        fault("m0,1,2,", 0);
        fault("s1,1,2;", 0);
        fault("s1,1,2,0,0;", 0);
        fault("s1,1,2,;", 0);
        fault("x1;", 0);
        fault("1;", 0);
        fault("d1;e;m9;", 3);
        fault("d1;".repeat(66), none);
        fault("d1;".repeat(66) + "d1", 198);
        fault("d1;".repeat(65) + "d123;", none);
    }

    private static void faultOfNumbers() {
        fault("d0000000000000000001;", DoubtTime.NONE);
        fault("d00000000000000000001;", 0);
        fault("d9223372036854775807;", 0);
        fault("d9223372036854775808;", 0);
        fault("d9999999999999999999;", 0);
        fault("d18446744073709551616;", 0);
        fault("d18446744073709551617;", 0);
        fault("d1;m0,0,18446744073709551617;", 3);
        fault("d4294967296;", 0);
        fault("m4294967296,0,1;", 0);
        fault("m0000000000000000005,0000001000000000000,0000001000000000000;", DoubtTime.NONE);
    }

    private static void faultOfRanges() {
        int none = DoubtTime.NONE;
        fault("d0;", none);
        fault("d999999;", none);
        fault("d1000000;", 0);
        fault("m0,0,0;", none);
        fault("m5,7,7;", none);
        fault("m6,0,0;", 0);
        fault("m0,8,7;", 0);
        fault("m0,0,1000000000000;", none);
        fault("m0,0,1000000000001;", 0);
        fault("m0,1000000000001,1000000000001;", 0);
        fault("s0,1,2,0;", none);
        fault("s1000000000000,1,2,0;", none);
        fault("s1000000000001,1,2,0;", 0);
        fault("s0,0,2,0;", 0);
        fault("s0,1000,1001,0;", none);
        fault("s0,1001,1002,0;", 0);
        fault("s0,1,1,0;", 0);
        fault("s0,1000,1000,0;", 0);
        fault("s0,1,1000000000,0;", none);
        fault("s0,1,1000000001,0;", 0);
        fault("s0,1,2,1;", none);
        fault("s0,1,2,2;", 0);
    }

    private static void lay() {
        DoubtTime x = new DoubtTime();
        Check.put(x, "m1,5,9;d7;m1,6,8;m4,0,1000000000000;d8;s3,4,5,1;s4,5,6,0;");
        CHECK.due(5, "lay()", x.lay(), 2);
        CHECK.due(5, "the text stays", x.count(7), 57);
        CHECK.due(5, "the last d", x.count(1), 8);
        CHECK.due(5, "the last m1 begins", x.span(1, 0), 6);
        CHECK.due(5, "the last m1 ends", x.span(1, 1), 8);
        CHECK.due(5, "m4 ends", x.span(4, 1), Check.BILLIONS);
        CHECK.due(5, "m0 has told nothing", x.span(0, 0), Check.LONG_NO);
        long[] leap = {4, 5, 6, 0};
        for (int what = 0; what < leap.length; what++) {
            CHECK.due(5, "leap(" + what + ")", x.leap(what), leap[what]);
        }
        CHECK.due(5, "wipe()", x.wipe(), 57);
        CHECK.due(5, "lay() of none", x.lay(), 0);
        CHECK.due(5, "drift without", x.count(1), 1000);
        long[] without = {1000, 1, 100, 0};
        for (int what = 0; what < without.length; what++) {
            CHECK.due(5, "leap(" + what + ") without", x.leap(what), without[what]);
        }
        CHECK.due(5, "good() of none", x.good(), 0);
    }

    private static void layForgets() {
        DoubtTime x = new DoubtTime();
        x.commit(0, 1);
        x.strike(0, 1);
        x.strike(5, 1);
        x.drift(5);
        x.go(10);
        x.tell(4, 1, 2);
        Check.put(x, "m0,10,20;");
        CHECK.due(5, "lay()", x.lay(), 1);
        long[] counts = {0, 1000, 1, 0, 0, 0, 0, 9};
        for (int what = 0; what < counts.length; what++) {
            CHECK.due(5, "count(" + what + ") behind lay()", x.count(what), counts[what]);
        }
        CHECK.due(5, "undo() behind lay()", x.undo(), DoubtTime.NO);
        CHECK.due(5, "span(0, 0)", x.span(0, 0), 10);
        CHECK.due(5, "span(4, 0)", x.span(4, 0), Check.LONG_NO);
        CHECK.due(5, "commitOf(0, 0)", x.commitOf(0, 0), DoubtTime.BAD);
        CHECK.due(5, "the first stamp is END again", x.commit(0, 1), 0);
        CHECK.due(5, "commitOf(0, 2)", x.commitOf(0, 2), 20);
        CHECK.due(5, "only what came behind lay()", x.undo(), 0);
        CHECK.due(5, "undo() of no more", x.undo(), DoubtTime.NO);
    }

    private static void layRefused() {
        DoubtTime x = new DoubtTime();
        x.commit(0, 1);
        Check.put(x, "d7;m0,1,2;s0,1,2,1;m");
        CHECK.due(5, "lay() with a fault", x.lay(), DoubtTime.NO);
        CHECK.due(5, "drift stays", x.count(1), 1000);
        CHECK.due(5, "span stays", x.span(0, 0), 990);
        CHECK.due(5, "leap stays", x.leap(0), 1500);
        CHECK.due(5, "commits stay", x.count(4), 1);
        CHECK.due(5, "changes stay", x.count(6), 1);
        CHECK.due(5, "the text stays", x.count(7), 20);
    }
}
