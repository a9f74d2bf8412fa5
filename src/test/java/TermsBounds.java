/** Paragraph 1 without its TEXT: LOCAL, MASTERS, DRIFT, what they tell, SPAN, HEARD, AGREED, GOOD, LIARS. */
final class TermsBounds extends Bounds {
    TermsBounds(Check check, Document document) {
        super(check, document);
    }

    @Override
    void run() {
        localAtFirst();
        localTickByTick();
        mastersZeroToFive();
        driftOfAMillion();
        lowAndHigh();
        lastToldCounts();
        spanAsTold();
        spanRoundedUp();
        spanBeginsAtLeast();
        heard();
        agreedSideBySide();
        agreedNotTheSameOnes();
        agreedAsFarAsItIsSo();
        agreedFirstRow();
        goodMoreThanHalf();
        liarHasNoTick();
        liarIsHeard();
    }

    private void localAtFirst() {
        says("LOCAL is a clock of its own (0 at first) that goes on TICK by TICK.");
        DoubtTime x = new DoubtTime();
        due("LOCAL at first", x.count(0), 0);
        x.go(1);
        due("LOCAL a TICK on", x.count(0), 1);
        x.go(5000);
        due("LOCAL 5000 TICKS on", x.count(0), 5001);
    }

    /** BEGIN is above the STAMP at one TICK alone in the middle of a long way, and below it behind that. */
    private void localTickByTick() {
        says("LOCAL is a clock of its own (0 at first) that goes on TICK by TICK.");
        DoubtTime x = aShortMoment();
        due("COMMITS DONE on the way", x.go(40), 1);
        dueAgreed("at the end of the way", x, 123, 160, 1);
        due("STAMP", x.commitOf(0, 2), 150);
        due("DONE at the TICK that did it", x.commitOf(0, 4), 2);
        DoubtTime y = aShortMoment();
        due("the first TICK", y.go(1), 0);
        dueAgreed("at 1", y, 150, 202, 1);
        due("the second TICK", y.go(1), 1);
        dueAgreed("at 2", y, 151, 203, 1);
        due("the third TICK", y.go(1), 0);
        dueAgreed("at 3", y, 104, 105, 1);
    }

    /** STAMP 150; BEGIN is 150, 150, 151 at LOCAL 0 to 2, and 104 at 3, for MASTERS 0 and 1 meet then. */
    static DoubtTime aShortMoment() {
        DoubtTime x = Check.laid("d500000;m5,140,150;");
        x.commit(0, 7);
        x.tell(0, 0, 100);
        x.tell(1, 103, 200);
        x.tell(2, 150, 300);
        x.strike(5, 1);
        return x;
    }

    private void mastersZeroToFive() {
        says("MASTERS are 0 to 5;");
        int[] none = {-1, 6, 31, 32, 38, -32, Integer.MIN_VALUE, Integer.MAX_VALUE};
        DoubtTime x = Check.laid("m0,1,2;m5,3,4;");
        for (int m : none) {
            due("tell(" + m + ", 1, 2)", x.tell(m, 1, 2), BAD);
            due("strike(" + m + ", 1)", x.strike(m, 1), BAD);
            due("strike(" + m + ", 0)", x.strike(m, 0), BAD);
            due("span(" + m + ", 0)", x.span(m, 0), LONG_BAD);
            due("span(" + m + ", 1)", x.span(m, 1), LONG_BAD);
        }
        dueSpan("the first", x, 0, 1, 2);
        dueSpan("the last", x, 5, 3, 4);
        due("tell(0, 7, 8)", x.tell(0, 7, 8), 2);
        due("tell(5, 9, 9)", x.tell(5, 9, 9), 2);
        due("strike(0, 1)", x.strike(0, 1), 1);
        due("strike(5, 1)", x.strike(5, 1), 0);
        for (int m = 0; m <= 5; m++) {
            dueFault("m" + m + ",1,2;", NONE);
        }
        dueFault("m6,1,2;", 0);
        dueFault("m10,1,2;", 0);
        dueFault("m4294967296,1,2;", 0);
        DoubtTime y = Check.laid("");
        for (int m = 0; m <= 5; m++) {
            due("tell(" + m + ", 1, 1)", y.tell(m, 1, 1), m + 1);
        }
    }

    private void driftOfAMillion() {
        says("DRIFT is D (0 to 999999) of a million.");
        DoubtTime x = new DoubtTime();
        due("drift(-1)", x.drift(-1), BAD);
        due("drift(1000000)", x.drift(1000000), BAD);
        due("drift(least)", x.drift(Integer.MIN_VALUE), BAD);
        due("drift(most)", x.drift(Integer.MAX_VALUE), BAD);
        due("drift(0)", x.drift(0), 1000);
        due("drift(999999)", x.drift(999999), 0);
        due("DRIFT", x.count(1), 999999);
        dueFault("d0;", NONE);
        dueFault("d999999;", NONE);
        dueFault("d1000000;", 0);
        DoubtTime y = Check.laid("d1;m0,10,10;");
        for (int i = 0; i < 200; i++) {
            y.go(5000);
        }
        dueSpan("1 of a million TICKS", y, 0, 1000009, 1000011);
        y.go(1);
        dueSpan("a TICK more", y, 0, 1000009, 1000013);
        y.drift(0);
        dueSpan("0 of a million", y, 0, 1000011, 1000011);
        y.drift(999999);
        dueSpan("999999 of a million", y, 0, 11, 2000011);
    }

    private void lowAndHigh() {
        says("A MASTER tells, at LOCAL u, LOW and HIGH (0 to 1000000000000, LOW no more than HIGH);");
        long last = LAST_TOLD;
        long[][] told = {{0, 0}, {0, 1}, {0, last}, {last, last}, {last - 1, last}, {500, 500}};
        for (long[] t : told) {
            DoubtTime x = new DoubtTime();
            due("tell(4, " + t[0] + ", " + t[1] + ")", x.tell(4, t[0], t[1]), 5);
            dueSpan("told", x, 4, t[0], t[1]);
            dueFault("m4," + t[0] + "," + t[1] + ";", NONE);
            dueSpan("laid", Check.laid("m4," + t[0] + "," + t[1] + ";"), 4, t[0], t[1]);
        }
        long[][] none = {{-1, 0}, {-1, -1}, {-1, last}, {0, last + 1}, {last, last + 1}, {last + 1, last + 1},
            {last + 1, last}, {1, 0}, {501, 500}, {0, -1}, {last, 0}, {Long.MIN_VALUE, 0}, {0, Long.MAX_VALUE},
            {0, Long.MIN_VALUE}, {Long.MAX_VALUE, Long.MAX_VALUE}, {Long.MIN_VALUE, Long.MIN_VALUE}};
        for (long[] n : none) {
            DoubtTime x = new DoubtTime();
            due("tell(0, " + n[0] + ", " + n[1] + ")", x.tell(0, n[0], n[1]), BAD);
            dueSpan("as it was", x, 0, 990, 1010);
            due("tell(4, " + n[0] + ", " + n[1] + ")", x.tell(4, n[0], n[1]), BAD);
            due("it has told nothing", x.span(4, 0), LONG_NO);
            dueFault("m4," + n[0] + "," + n[1] + ";", 0);
        }
    }

    private void lastToldCounts() {
        says("only what it told last counts.");
        DoubtTime x = Check.laid("d0;m0,5,10;m0,1,20;");
        dueSpan("the last ITEM, though wider", x, 0, 1, 20);
        x.go(3);
        x.tell(0, 7, 8);
        dueSpan("told at 3", x, 0, 7, 8);
        due("a TICK of what it told before", x.in(10), 0);
        x.go(1);
        dueSpan("a TICK on", x, 0, 8, 9);
        x.tell(0, 8, 9);
        dueSpan("told anew at 4", x, 0, 8, 9);
        due("HEARD once", x.count(2), 1);
    }

    private void spanAsTold() {
        says("Its SPAN at LOCAL t (u or later): with g being t less u, e being g times D by a million, rounded up: "
            + "from LOW and g less e to HIGH and g and e (it may begin below 0).");
        DoubtTime x = Check.laid("d999999;m0,5,9;");
        dueSpan("at u = 0", x, 0, 5, 9);
        x.go(4);
        dueSpan("at 4", x, 0, 5, 17);
        x.tell(0, 5, 9);
        dueSpan("at u = 4", x, 0, 5, 9);
        x.go(1);
        dueSpan("g is 1, t is 5", x, 0, 5, 11);
        x.tell(1, 5, 9);
        dueSpan("another at its own u", x, 1, 5, 9);
        dueSpan("the first one at its own", x, 0, 5, 11);
    }

    private void spanRoundedUp() {
        says("Its SPAN at LOCAL t (u or later): with g being t less u, e being g times D by a million, rounded up: "
            + "from LOW and g less e to HIGH and g and e (it may begin below 0).");
        // D, g, e: just a whole TICK, and what is a millionth above or below it.
        int[][] rows = {{0, 1, 0}, {0, 5000, 0}, {1, 1, 1}, {999999, 1, 1}, {500000, 1, 1}, {500000, 2, 1},
            {500000, 3, 2}, {1000, 1000, 1}, {1000, 1001, 2}, {1000, 999, 1}, {1001, 1000, 2}, {999, 1000, 1},
            {250000, 4, 1}, {250001, 4, 2}, {249999, 4, 1}, {999999, 5000, 5000}, {999800, 5000, 4999},
            {999801, 5000, 5000}, {200, 5000, 1}, {201, 5000, 2}};
        for (int[] r : rows) {
            DoubtTime x = Check.laid("d" + r[0] + ";m3,100,200;");
            x.go(r[1]);
            dueSpan("D " + r[0] + ", g " + r[1], x, 3, 100 + r[1] - r[2], 200 + r[1] + r[2]);
        }
    }

    /** DRIFT is less than a million, so g less e is never below 0, and no SPAN can come to begin there. */
    private void spanBeginsAtLeast() {
        says("Its SPAN at LOCAL t (u or later): with g being t less u, e being g times D by a million, rounded up: "
            + "from LOW and g less e to HIGH and g and e (it may begin below 0).");
        DoubtTime x = Check.laid("d999999;m0,0,0;");
        x.go(1);
        dueSpan("at 1", x, 0, 0, 2);
        x.go(4999);
        dueSpan("at 5000", x, 0, 0, 10000);
        due("in(0)", x.in(0), 1);
        due("in(10000)", x.in(10000), 1);
        due("in(10001)", x.in(10001), 0);
        dueAgreed("at 5000", x, 0, 10000, 1);
        due("SAFE is below 0", x.safe(), -1);
    }

    private void heard() {
        says("HEARD is a MASTER that has told something and is not STRUCK.");
        DoubtTime x = Check.laid("m1,5,9;");
        due("one that told", x.count(2), 1);
        due("STRUCK", x.strike(1, 1), 0);
        due("in none", x.in(5), 0);
        due("one that told nothing, STRUCK", x.strike(2, 1), 0);
        due("not STRUCK any more, but told nothing", x.strike(2, 0), 0);
        due("tells while STRUCK", x.tell(1, 6, 7), 0);
        due("in none", x.in(6), 0);
        due("not STRUCK any more", x.strike(1, 0), 1);
        due("what it told while STRUCK", x.in(6), 1);
        due("the other tells", x.tell(2, 6, 6), 2);
        due("both", x.in(6), 2);
    }

    private void agrees(String text, long begin, long end, int good) {
        dueAgreed(text, Check.laid(text), begin, end, good);
    }

    private static final String AGREED =
        "AGREED is a row of TICKS side by side, each of which is in as many SPANS of HEARD MASTERS as any TICK at "
        + "all is (not always in the same ones), going on as far as that is so,";

    private void agreedSideBySide() {
        says(AGREED);
        agrees("m0,4,4;", 4, 4, 1);
        agrees("m0,0,0;", 0, 0, 1);
        agrees("m0,1000000000000,1000000000000;", LAST_TOLD, LAST_TOLD, 1);
        agrees("m0,1,5;m1,5,9;", 5, 5, 1);
        agrees("m0,1,5;m1,6,9;", 1, 9, 0);
        agrees("m0,1,5;m1,7,9;", 1, 5, 0);
        agrees("m0,7,9;m1,1,5;", 1, 5, 0);
        agrees("m0,1,9;m1,1,9;", 1, 9, 1);
        agrees("m0,1,9;m1,2,9;", 2, 9, 1);
        agrees("m0,1,9;m1,1,8;", 1, 8, 1);
        agrees("m0,1,9;m1,2,8;", 2, 8, 1);
    }

    private void agreedNotTheSameOnes() {
        says(AGREED);
        agrees("m0,0,9;m1,2,3;m2,4,5;", 2, 5, 1);
        agrees("m0,0,9;m1,2,3;m2,5,6;", 2, 3, 1);
        agrees("m0,0,3;m1,2,5;m2,4,7;m3,6,9;", 2, 7, 0);
        agrees("m0,0,3;m1,2,5;m2,4,7;m3,8,9;", 2, 5, 0);
        agrees("m0,0,1;m1,2,2;m2,3,3;m3,4,6;m4,7,7;m5,8,9;", 0, 9, 0);
        agrees("m5,0,1;m4,2,2;m3,3,3;m2,4,6;m1,7,7;m0,8,9;", 0, 9, 0);
        agrees("m0,0,1;m1,2,2;m2,3,3;m3,4,6;m4,8,8;m5,9,9;", 0, 6, 0);
        // Two leave at once, two come at once.
        agrees("m0,0,4;m1,0,4;m2,5,9;m3,5,9;", 0, 9, 0);
        agrees("m0,0,4;m1,0,4;m2,5,9;m3,6,9;", 0, 4, 0);
        agrees("m0,0,4;m1,0,4;m2,5,9;m3,5,7;m4,8,8;", 0, 8, 0);
    }

    private void agreedAsFarAsItIsSo() {
        says(AGREED);
        agrees("m0,0,9;m1,3,20;m2,10,15;", 3, 15, 1);
        agrees("m0,0,9;m1,3,20;m2,10,25;", 3, 20, 1);
        agrees("m0,0,9;m1,3,20;m2,9,25;", 9, 9, 1);
        agrees("m0,0,9;m1,3,20;m2,11,25;", 3, 9, 1);
        agrees("m0,0,1000000000000;m1,0,7;m2,8,1000000000000;", 0, LAST_TOLD, 1);
        agrees("m0,5,5;m1,5,5;m2,5,5;m3,5,5;m4,5,5;m5,6,6;", 5, 5, 1);
        DoubtTime x = Check.laid("d0;m0,0,9;m1,3,20;m2,10,15;");
        x.strike(0, 1);
        dueAgreed("those HEARD alone", x, 10, 15, 1);
        x.strike(1, 1);
        x.strike(2, 1);
        dueAgreed("nobody", x, LONG_NO, LONG_NO, 0);
    }

    private void agreedFirstRow() {
        says("of several such rows the first, be it shorter: its BEGIN and its END.");
        agrees("m0,50,90;m1,10,10;", 10, 10, 0);
        agrees("m0,10,10;m1,50,90;", 10, 10, 0);
        agrees("m0,1,2;m1,2,3;m2,10,99;m3,10,99;", 2, 2, 0);
        agrees("m0,10,99;m1,10,99;m2,1,2;m3,2,3;", 2, 2, 0);
        agrees("m0,0,100;m1,5,5;m2,7,90;", 5, 5, 1);
        agrees("m0,0,100;m1,7,90;m2,5,5;", 5, 5, 1);
        agrees("m0,0,100;m1,5,5;m2,6,90;", 5, 90, 1);
        agrees("m0,0,100;m1,5,5;m2,7,90;m3,20,20;", 20, 20, 1);
    }

    private void goodMoreThanHalf() {
        says("It is GOOD, if so many are more than half of those HEARD.");
        for (int heard = 1; heard <= 6; heard++) {
            for (int agree = 1; agree <= heard; agree++) {
                DoubtTime x = Check.laid("");
                for (int m = 0; m < heard; m++) {
                    // Those that do not agree are far from one another.
                    long low = m < agree ? 100 : 1000 * m;
                    x.tell(m, low, low + 5);
                }
                due(agree + " of " + heard + " agree: good()", x.good(), 2 * agree > heard ? 1 : 0);
                due(agree + " of " + heard + " agree: in(105)", x.in(105), agree);
            }
        }
        DoubtTime x = new DoubtTime();
        x.strike(0, 1);
        x.strike(1, 1);
        due("1 of 2, STRUCK ones do not count", x.good(), 0);
        x.strike(3, 1);
        due("1 of 1", x.good(), 1);
        x.strike(2, 1);
        due("0 of 0", x.good(), 0);
    }

    private void liarHasNoTick() {
        says("A LIAR is a HEARD MASTER whose SPAN has no TICK of AGREED.");
        due("one TICK of it", Check.laid("m0,10,20;m1,15,15;m2,15,15;m3,15,30;").liars(), 0);
        due("one TICK behind it", Check.laid("m0,10,20;m1,15,15;m2,15,15;m3,16,30;").liars(), 8);
        due("one TICK ahead of it", Check.laid("m0,10,20;m1,15,15;m2,15,15;m3,0,14;").liars(), 8);
        due("on both sides of it", Check.laid("m0,10,20;m1,15,15;m2,15,15;m3,0,14;m4,16,16;").liars(), 24);
        due("the last TICK of a row of several", Check.laid("m0,0,9;m1,2,3;m2,4,4;").liars(), 0);
        due("a TICK of a later row", Check.laid("m0,0,9;m1,2,3;m2,5,9;").liars(), 4);
        due("wider than AGREED", Check.laid("m0,0,100;m1,4,5;m2,4,5;").liars(), 0);
        due("AGREED is not GOOD", Check.laid("m0,1,5;m1,7,9;").liars(), 2);
        due("all but one", Check.laid("m0,50,50;m1,40,40;m2,30,30;m3,20,20;m4,10,10;m5,0,0;").liars(), 31);
    }

    private void liarIsHeard() {
        says("A LIAR is a HEARD MASTER whose SPAN has no TICK of AGREED.");
        DoubtTime x = new DoubtTime();
        due("at first", x.liars(), 8);
        x.strike(3, 1);
        due("STRUCK", x.liars(), 0);
        x.tell(3, 0, 0);
        due("STRUCK, it tells", x.liars(), 0);
        x.strike(3, 0);
        due("HEARD again", x.liars(), 8);
        due("MASTERS that told nothing", x.liars() & 48, 0);
        due("nobody HEARD", Check.laid("").liars(), 0);
    }
}
