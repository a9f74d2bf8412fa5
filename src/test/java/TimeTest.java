import java.util.Random;

/** Promises 12 to 16: span, agreed, good, in, liars. */
public final class TimeTest {
    private static final Check CHECK = new Check("TimeTest");

    public static void main(String[] args) {
        span();
        spanRounding();
        spanLeast();
        spanFar();
        agreed();
        agreedGoesOn();
        agreedFirst();
        agreedWidens();
        agreedByCounting();
        good();
        in();
        liars();
        CHECK.end();
    }

    private static void span() {
        DoubtTime x = new DoubtTime();
        int[][] bad = {{-1, 0}, {6, 0}, {0, -1}, {0, 2}, {32, 0}, {4, 2}, {4, -1}};
        for (int[] b : bad) {
            CHECK.due(12, "span(" + b[0] + ", " + b[1] + ")", x.span(b[0], b[1]), Check.LONG_BAD);
        }
        CHECK.due(12, "told nothing", x.span(4, 0), Check.LONG_NO);
        CHECK.due(12, "told nothing", x.span(5, 1), Check.LONG_NO);
        x.strike(0, 1);
        CHECK.due(12, "a STRUCK one has a SPAN", x.span(0, 1), 1010);
        x.strike(4, 1);
        CHECK.due(12, "a STRUCK one that told nothing", x.span(4, 1), Check.LONG_NO);
    }

    private static void spanRounding() {
        DoubtTime x = Check.laid("d1000;m0,0,0;");
        // A thousandth, rounded up: 1 from 1 to 1000, 2 from 1001 on.
        x.go(1);
        CHECK.due(12, "begin at 1", x.span(0, 0), 0);
        CHECK.due(12, "end at 1", x.span(0, 1), 2);
        x.go(999);
        CHECK.due(12, "begin at 1000", x.span(0, 0), 999);
        CHECK.due(12, "end at 1000", x.span(0, 1), 1001);
        x.go(1);
        CHECK.due(12, "begin at 1001", x.span(0, 0), 999);
        CHECK.due(12, "end at 1001", x.span(0, 1), 1003);
        x.drift(0);
        CHECK.due(12, "begin without drift", x.span(0, 0), 1001);
        CHECK.due(12, "end without drift", x.span(0, 1), 1001);
        x.drift(1);
        CHECK.due(12, "begin with the least drift", x.span(0, 0), 1000);
        CHECK.due(12, "end with the least drift", x.span(0, 1), 1002);
        x.tell(0, 5, 9);
        CHECK.due(12, "begin as told", x.span(0, 0), 5);
        CHECK.due(12, "end as told", x.span(0, 1), 9);
    }

    /** However little it is, it is rounded up to a whole TICK. */
    private static void spanLeast() {
        DoubtTime x = Check.laid("d1;m0,10,10;");
        x.go(1);
        CHECK.due(12, "a millionth: begin", x.span(0, 0), 10);
        CHECK.due(12, "a millionth: end", x.span(0, 1), 12);
        DoubtTime y = Check.laid("d200000;m0,10,10;");
        y.go(5);
        CHECK.due(12, "just 1: begin", y.span(0, 0), 14);
        CHECK.due(12, "just 1: end", y.span(0, 1), 16);
        y.drift(200001);
        CHECK.due(12, "a little more than 1: begin", y.span(0, 0), 13);
        CHECK.due(12, "a little more than 1: end", y.span(0, 1), 17);
    }

    private static void spanFar() {
        DoubtTime x = Check.laid("d999999;m0,0,1000000000000;");
        for (int i = 0; i < 400; i++) {
            x.go(5000);
        }
        // 2000000 gone; 1999998 of drift.
        CHECK.due(12, "begin", x.span(0, 0), 2);
        CHECK.due(12, "end", x.span(0, 1), Check.BILLIONS + 3999998);
        CHECK.due(12, "count(0)", x.count(0), 2000000);
    }

    private static void agrees(String text, long begin, long end, int isGood) {
        DoubtTime x = Check.laid(text);
        CHECK.due(13, "agreed(0) of " + text, x.agreed(0), begin);
        CHECK.due(13, "agreed(1) of " + text, x.agreed(1), end);
        CHECK.due(14, "good() of " + text, x.good(), isGood);
    }

    private static void agreed() {
        DoubtTime x = new DoubtTime();
        CHECK.due(13, "agreed(-1)", x.agreed(-1), Check.LONG_BAD);
        CHECK.due(13, "agreed(2)", x.agreed(2), Check.LONG_BAD);
        x.strike(0, 1);
        x.strike(1, 1);
        x.strike(2, 1);
        CHECK.due(13, "of one", x.agreed(0), 2000);
        x.strike(3, 1);
        CHECK.due(13, "nobody HEARD", x.agreed(0), Check.LONG_NO);
        CHECK.due(13, "nobody HEARD", x.agreed(1), Check.LONG_NO);
        CHECK.due(13, "BAD ahead of NO", x.agreed(2), Check.LONG_BAD);
        agrees("m0,7,7;", 7, 7, 1);
        agrees("m5,0,1000000000000;", 0, Check.BILLIONS, 1);
        agrees("m0,0,10;m1,10,20;", 10, 10, 1);
        agrees("m0,0,10;m1,5,7;m2,6,20;", 6, 7, 1);
        agrees("m0,0,5;m1,0,5;m2,0,5;m3,0,5;m4,0,5;m5,0,5;", 0, 5, 1);
    }

    /** Ticks side by side in as many spans, though not always in the same ones. */
    private static void agreedGoesOn() {
        agrees("m0,0,5;m1,6,10;", 0, 10, 0);
        agrees("m0,6,10;m1,0,5;", 0, 10, 0);
        agrees("m0,0,5;m1,7,10;", 0, 5, 0);
        agrees("m0,0,20;m1,3,5;m2,6,9;", 3, 9, 1);
        agrees("m0,0,20;m1,3,5;m2,7,9;", 3, 5, 1);
        agrees("m0,0,1;m1,2,3;m2,4,5;m3,6,7;m4,8,9;m5,10,11;", 0, 11, 0);
        agrees("m5,0,1;m4,2,3;m3,4,5;m2,6,7;m1,9,9;m0,10,11;", 0, 7, 0);
        agrees("m0,0,8;m1,2,4;m2,5,12;m3,9,14;", 2, 12, 0);
    }

    private static void agreedFirst() {
        agrees("m0,50,90;m1,60,95;m2,10,11;m3,11,30;", 11, 11, 0);
        agrees("m2,50,90;m3,60,95;m0,10,11;m1,11,30;", 11, 11, 0);
        agrees("m0,50,90;m1,60,95;m2,10,11;m3,11,30;m4,70,80;", 70, 80, 1);
        agrees("m0,0,100;m1,1,2;m2,2,3;m3,90,99;m4,90,99;", 2, 2, 1);
    }

    private static void agreedWidens() {
        DoubtTime x = Check.laid("d500000;m0,0,10;m1,20,30;m2,22,31;");
        CHECK.due(13, "begin at 0", x.agreed(0), 22);
        CHECK.due(13, "end at 0", x.agreed(1), 30);
        x.go(11);
        // Ends and begins part by 2 TICKS a TICK: m0 ends at 27, m1 begins at 25, m2 at 27.
        CHECK.due(13, "begin at 11", x.agreed(0), 27);
        CHECK.due(13, "end at 11", x.agreed(1), 27);
        CHECK.due(13, "in(27)", x.in(27), 3);
    }

    /** Every TICK is asked for in how many SPANS it is, and AGREED read off that. */
    private static void agreedByCounting() {
        Random random = new Random(5);
        for (int run = 0; run < 2000; run++) {
            DoubtTime x = new DoubtTime();
            for (int m = 0; m < 6; m++) {
                int low = random.nextInt(30);
                x.tell(m, low, low + random.nextInt(12));
            }
            x.strike(random.nextInt(6), 1);
            x.drift(random.nextInt(1000000));
            x.go(1 + random.nextInt(9));
            int most = 0;
            for (int tick = 0; tick < 80; tick++) {
                most = Math.max(most, x.in(tick));
            }
            int begin = 0;
            while (x.in(begin) < most) {
                begin++;
            }
            int end = begin;
            while (x.in(end + 1) == most) {
                end++;
            }
            CHECK.due(13, "agreed(0) of run " + run, x.agreed(0), begin);
            CHECK.due(13, "agreed(1) of run " + run, x.agreed(1), end);
            CHECK.due(14, "good() of run " + run, x.good(), most > 2.5 ? 1 : 0);
        }
    }

    private static void good() {
        DoubtTime x = Check.laid("m0,0,9;m1,5,20;m2,30,40;m3,50,60;");
        CHECK.due(14, "two of four", x.good(), 0);
        x.strike(3, 1);
        CHECK.due(14, "two of three", x.good(), 1);
        x.strike(1, 1);
        CHECK.due(14, "one of two", x.good(), 0);
        x.strike(0, 1);
        CHECK.due(14, "one of one", x.good(), 1);
        x.strike(2, 1);
        CHECK.due(14, "none", x.good(), 0);
        DoubtTime y = Check.laid("m0,0,9;m1,0,9;m2,0,9;m3,50,60;m4,50,59;m5,61,62;");
        CHECK.due(14, "three of six", y.good(), 0);
        y.tell(3, 9, 10);
        CHECK.due(14, "four of six", y.good(), 1);
    }

    private static void in() {
        DoubtTime x = Check.laid("d0;m0,0,1000000000000;m1,5,5;m2,5,6;");
        CHECK.due(15, "in(0)", x.in(0), 1);
        CHECK.due(15, "in(4)", x.in(4), 1);
        CHECK.due(15, "in(5)", x.in(5), 3);
        CHECK.due(15, "in(6)", x.in(6), 2);
        CHECK.due(15, "in(7)", x.in(7), 1);
        CHECK.due(15, "in(10^12)", x.in(Check.BILLIONS), 1);
        CHECK.due(15, "in(10^12 + 1)", x.in(Check.BILLIONS + 1), 0);
        CHECK.due(15, "in(2 10^12)", x.in(2 * Check.BILLIONS), 0);
        CHECK.due(15, "in(2 10^12 + 1)", x.in(2 * Check.BILLIONS + 1), DoubtTime.BAD);
        CHECK.due(15, "in(-1)", x.in(-1), DoubtTime.BAD);
        CHECK.due(15, "in(least)", x.in(Long.MIN_VALUE), DoubtTime.BAD);
        x.go(1);
        CHECK.due(15, "in(5) a TICK on", x.in(5), 1);
        CHECK.due(15, "in(6) a TICK on", x.in(6), 3);
        x.strike(0, 1);
        CHECK.due(15, "in(6) without a STRUCK one", x.in(6), 2);
    }

    private static void liars() {
        CHECK.due(16, "at first", new DoubtTime().liars(), 8);
        CHECK.due(16, "none", Check.laid("m0,1,2;").liars(), 0);
        CHECK.due(16, "beside AGREED", Check.laid("m0,5,9;m1,6,8;m2,9,9;m3,0,5;m4,6,8;").liars(), 4 + 8);
        CHECK.due(16, "in one row with others", Check.laid("m0,5,9;m1,6,8;m2,9,9;m3,0,5;").liars(), 0);
        CHECK.due(16, "it meets AGREED, not all of it", Check.laid("m0,0,20;m1,3,5;m2,6,9;m3,30,30;").liars(), 8);
        CHECK.due(16, "several rows", Check.laid("m0,50,90;m1,60,95;m2,10,11;m3,11,30;").liars(), 3);
        DoubtTime x = new DoubtTime();
        x.strike(3, 1);
        CHECK.due(16, "a STRUCK one is none", x.liars(), 0);
        CHECK.due(16, "no change", x.count(6), 1);
        DoubtTime y = new DoubtTime();
        Check.put(y, "s0,1,2,0;");
        y.lay();
        CHECK.due(16, "nobody HEARD", y.liars(), 0);
        DoubtTime z = Check.laid("m5,0,1;m0,3,9;m1,3,9;");
        CHECK.due(16, "bit 5", z.liars(), 32);
    }
}
