/** Paragraph 3: SMEARED and BACK. */
final class LeapBounds extends Bounds {
    LeapBounds(Check check, Document document) {
        super(check, document);
    }

    @Override
    void run() {
        noMoreThanT();
        fromTAndWOn();
        between();
        cutNotRounded();
        backLeast();
        backAtLeastZero();
        backFar();
        backAndForth();
    }

    private void smears(String text, long... pairs) {
        DoubtTime x = Check.laid(text);
        for (int i = 0; i + 1 < pairs.length; i += 2) {
            due(text + " smeared(" + pairs[i] + ")", x.smeared(pairs[i]), pairs[i + 1]);
        }
    }

    private void goesBack(String text, long... pairs) {
        DoubtTime x = Check.laid(text);
        for (int i = 0; i + 1 < pairs.length; i += 2) {
            due(text + " back(" + pairs[i] + ")", x.back(pairs[i]), pairs[i + 1]);
        }
    }

    private void noMoreThanT() {
        says("SMEARED is a TICK t by THE LEAP: t, if it is no more than T;");
        // With W being A and 1, a TICK behind T is moved as soon as can be: the second one, by one.
        smears("s1000,1000,1001,0;", 0, 0, 999, 999, 1000, 1000, 1001, 1001, 1002, 1003);
        smears("s1000,1000,1001,1;", 0, 0, 999, 999, 1000, 1000, 1001, 1001, 1002, 1001);
        smears("s0,1000,1001,0;", 0, 0, 1, 1, 2, 3);
        smears("s0,1000,1001,1;", 0, 0, 1, 1, 2, 1);
        long t = LAST_TOLD;
        smears("s1000000000000,1,2,0;", t - 1, t - 1, t, t, t + 1, t + 1, t + 2, t + 3);
        smears("s1000000000000,1,2,1;", t - 1, t - 1, t, t, t + 1, t + 1, t + 2, t + 1);
    }

    private void fromTAndWOn() {
        says("from T and W on t and A (KIND 0), t less A (1);");
        smears("s10,3,4,0;", 13, 15, 14, 17, 15, 18, LAST_ASKED, LAST_ASKED + 3);
        smears("s10,3,4,1;", 13, 11, 14, 11, 15, 12, LAST_ASKED, LAST_ASKED - 3);
        smears("s0,1000,1001,0;", 1000, 1999, 1001, 2001, 1002, 2002);
        smears("s0,1000,1001,1;", 1000, 1, 1001, 1, 1002, 2);
        smears("s1500,1,100,0;", 1599, 1599, 1600, 1601, 1601, 1602);
        smears("s1500,1,100,1;", 1599, 1599, 1600, 1599, 1601, 1600);
        long end = LAST_TOLD + 1000000000;
        smears("s1000000000000,1000,1000000000,0;", end - 1, end + 998, end, end + 1000, end + 1, end + 1001);
        smears("s1000000000000,1000,1000000000,1;", end - 1, end - 1000, end, end - 1000, end + 1, end - 999);
    }

    private void between() {
        says("between these t and, or less, A times (t less T) by W, cut.");
        smears("s100,2,10,0;", 101, 101, 104, 104, 105, 106, 106, 107, 109, 110, 110, 112);
        smears("s100,2,10,1;", 101, 101, 104, 104, 105, 104, 106, 105, 109, 108, 110, 108);
        smears("s10,3,4,0;", 10, 10, 11, 11, 12, 13, 13, 15);
        smears("s10,3,4,1;", 10, 10, 11, 11, 12, 11, 13, 11);
        // The widest window: A times (t less T) needs more than 32 bits.
        long t = LAST_TOLD;
        smears("s1000000000000,1000,1000000000,0;", t + 999999, t + 999999, t + 1000000, t + 1000001,
            t + 500000000, t + 500000500, t + 999000000, t + 999000999);
        smears("s1000000000000,1000,1000000000,1;", t + 999999, t + 999999, t + 1000000, t + 999999,
            t + 500000000, t + 499999500, t + 999000000, t + 998999001);
    }

    /** For KIND 1, too, the part that is taken off is cut, not what is left. */
    private void cutNotRounded() {
        says("between these t and, or less, A times (t less T) by W, cut.");
        smears("s0,1,3,0;", 1, 1, 2, 2, 3, 4);
        smears("s0,1,3,1;", 1, 1, 2, 2, 3, 2);
        smears("s0,999,1000,0;", 1, 1, 2, 3, 999, 1997, 1000, 1999);
        smears("s0,999,1000,1;", 1, 1, 2, 1, 999, 1, 1000, 1);
    }

    private static final String BACK = "BACK of a TICK v: the least t (0 at least) that is SMEARED to v or more.";

    private void backLeast() {
        says(BACK);
        // KIND 0 leaves TICKS out (12, 14, 16 are SMEARED to nowhere).
        goesBack("s10,3,4,0;", 9, 9, 10, 10, 11, 11, 12, 12, 13, 12, 14, 13, 15, 13, 16, 14, 17, 14, 18, 15);
        // KIND 1 comes to 11 four times: the least of them; and to 12 only behind the window.
        goesBack("s10,3,4,1;", 9, 9, 10, 10, 11, 11, 12, 15, 13, 16);
        goesBack("s1500,1,100,0;", 1500, 1500, 1599, 1599, 1600, 1600, 1601, 1600, 1602, 1601);
        goesBack("s1500,1,100,1;", 1500, 1500, 1598, 1598, 1599, 1599, 1600, 1601, 1601, 1602);
    }

    private void backAtLeastZero() {
        says(BACK);
        goesBack("s0,1000,1001,0;", 0, 0, 1, 1, 2, 2, 3, 2, 1999, 1000, 2000, 1001, 2001, 1001, 2002, 1002);
        goesBack("s0,1000,1001,1;", 0, 0, 1, 1, 2, 1002, 3, 1003);
        goesBack("s1000000000000,1000,1001,0;", 0, 0, 1, 1, 999, 999, 1000, 1000, 1001, 1001);
        goesBack("s1000000000000,1000,1001,1;", 0, 0, 1, 1, 999, 999, 1000, 1000, 1001, 1001);
    }

    private void backFar() {
        says(BACK);
        long last = LAST_ASKED;
        goesBack("s0,1,2,0;", last, last - 1, last - 1, last - 2);
        goesBack("s0,1000,1001,0;", last, last - 1000);
        goesBack("s0,1000,1001,1;", last, last + 1000, last - 1, last + 999);
        long t = LAST_TOLD;
        goesBack("s1000000000000,1000,1000000000,0;", t, t, t + 1000000, t + 1000000, t + 1000001, t + 1000000,
            t + 1000001000, t + 1000000000, t + 1000000999, t + 1000000000, t + 1000000998, t + 999999999);
        goesBack("s1000000000000,1000,1000000000,1;", t, t, t + 999999, t + 999999, t + 1000000, t + 1000001,
            t + 999999000, t + 999999999, t + 999999001, t + 1000000001);
    }

    /** Round about each end: SMEARED of BACK is v or more, and of the TICK ahead of it less. */
    private void backAndForth() {
        says(BACK);
        String[] leaps = {"s0,1,2,0;", "s0,1,2,1;", "s3,7,8,0;", "s3,7,8,1;", "s30,11,40,0;", "s30,11,40,1;"};
        for (String leap : leaps) {
            DoubtTime x = Check.laid(leap);
            for (long v = 0; v <= 90; v++) {
                long t = x.back(v);
                due(leap + " back(" + v + ") is SMEARED to it or more", x.smeared(t) >= v ? 1 : 0, 1);
                boolean isLeast = t == 0 || x.smeared(t - 1) < v;
                due(leap + " back(" + v + ") is the least", isLeast ? 1 : 0, 1);
            }
        }
    }
}
