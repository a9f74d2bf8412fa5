/** Promises 6 to 11: tell, strike, strikeLiars, drift, go, undo. */
public final class MastersTest {
    private static final Check CHECK = new Check("MastersTest");

    public static void main(String[] args) {
        tell();
        tellBad();
        strike();
        strikeLiars();
        drift();
        go();
        goTickByTick();
        goWithoutGood();
        undoEach();
        undoTellOfEachMaster();
        undoSix();
        undoIsNoChange();
        CHECK.end();
    }

    private static void tell() {
        DoubtTime x = new DoubtTime();
        CHECK.due(6, "tell(5, 0, 0)", x.tell(5, 0, 0), 5);
        CHECK.due(6, "tell(5) again", x.tell(5, 7, Check.BILLIONS), 5);
        CHECK.due(6, "only the last counts: begin", x.span(5, 0), 7);
        CHECK.due(6, "only the last counts: end", x.span(5, 1), Check.BILLIONS);
        CHECK.due(6, "the same told anew is a change", x.tell(5, 7, Check.BILLIONS), 5);
        CHECK.due(6, "count(6)", x.count(6), 3);
        CHECK.due(6, "tell(4, max, max)", x.tell(4, Check.BILLIONS, Check.BILLIONS), 6);
        x.go(1000);
        CHECK.due(6, "span(0, 0) told at 0", x.span(0, 0), 1989);
        x.tell(0, 50, 60);
        CHECK.due(6, "told now: begin", x.span(0, 0), 50);
        CHECK.due(6, "told now: end", x.span(0, 1), 60);
        x.strike(0, 1);
        CHECK.due(6, "a STRUCK one tells", x.tell(0, 70, 80), 5);
        CHECK.due(6, "and stays STRUCK", x.count(3), 1);
        CHECK.due(6, "span of a STRUCK one", x.span(0, 0), 70);
    }

    private static void tellBad() {
        DoubtTime x = new DoubtTime();
        int bad = DoubtTime.BAD;
        CHECK.due(6, "m = -1", x.tell(-1, 0, 1), bad);
        CHECK.due(6, "m = 6", x.tell(6, 0, 1), bad);
        CHECK.due(6, "m = 32", x.tell(32, 0, 1), bad);
        CHECK.due(6, "low = -1", x.tell(0, -1, 1), bad);
        CHECK.due(6, "low above high", x.tell(0, 2, 1), bad);
        CHECK.due(6, "high too high", x.tell(0, 2, Check.BILLIONS + 1), bad);
        CHECK.due(6, "both too high", x.tell(0, Check.BILLIONS + 1, Check.BILLIONS + 1), bad);
        CHECK.due(6, "least and most", x.tell(0, Long.MIN_VALUE, Long.MAX_VALUE), bad);
        CHECK.due(6, "no change", x.count(6), 0);
        CHECK.due(6, "span(0, 0)", x.span(0, 0), 990);
    }

    private static void strike() {
        DoubtTime x = new DoubtTime();
        CHECK.due(7, "strike(0, 0)", x.strike(0, 0), DoubtTime.NO);
        CHECK.due(7, "strike(0, 1)", x.strike(0, 1), 3);
        CHECK.due(7, "strike(0, 1) again", x.strike(0, 1), DoubtTime.NO);
        CHECK.due(7, "one that told nothing", x.strike(5, 1), 3);
        CHECK.due(7, "count(3)", x.count(3), 2);
        CHECK.due(7, "it tells", x.tell(5, 1, 2), 3);
        CHECK.due(7, "strike(5, 0)", x.strike(5, 0), 4);
        CHECK.due(7, "strike(0, 0)", x.strike(0, 0), 5);
        CHECK.due(7, "count(3)", x.count(3), 0);
        int bad = DoubtTime.BAD;
        CHECK.due(7, "m = -1", x.strike(-1, 0), bad);
        CHECK.due(7, "m = 6", x.strike(6, 0), bad);
        CHECK.due(7, "m = 33", x.strike(33, 1), bad);
        CHECK.due(7, "is = 2", x.strike(0, 2), bad);
        CHECK.due(7, "is = -1", x.strike(0, -1), bad);
        CHECK.due(7, "count(6)", x.count(6), 5);
    }

    private static void strikeLiars() {
        DoubtTime x = Check.laid("m0,10,20;m1,15,30;m2,12,18;m3,40,50;m4,0,9;m5,21,60;");
        CHECK.due(8, "liars()", x.liars(), 8 + 16 + 32);
        CHECK.due(8, "strikeLiars()", x.strikeLiars(), 3);
        CHECK.due(8, "one change", x.count(6), 1);
        CHECK.due(8, "count(3)", x.count(3), 3);
        CHECK.due(8, "count(2)", x.count(2), 3);
        CHECK.due(8, "liars() behind it", x.liars(), 0);
        CHECK.due(8, "none", x.strikeLiars(), DoubtTime.NO);
        CHECK.due(8, "still one change", x.count(6), 1);
        CHECK.due(8, "a STRUCK one is no LIAR", x.strike(3, 0), 4);
        CHECK.due(8, "liars()", x.liars(), 8);
        CHECK.due(8, "strikeLiars()", x.strikeLiars(), 1);
        CHECK.due(8, "nobody HEARD", Check.laid("").strikeLiars(), DoubtTime.NO);
        DoubtTime y = new DoubtTime();
        Check.put(y, "d1;");
        y.lay();
        CHECK.due(8, "nobody HEARD", y.strikeLiars(), DoubtTime.NO);
        CHECK.due(8, "no change", y.count(6), 0);
    }

    private static void drift() {
        DoubtTime x = new DoubtTime();
        CHECK.due(9, "it is so", x.drift(1000), DoubtTime.NO);
        CHECK.due(9, "drift(0)", x.drift(0), 1000);
        CHECK.due(9, "drift(999999)", x.drift(999999), 0);
        CHECK.due(9, "drift(1000000)", x.drift(1000000), DoubtTime.BAD);
        CHECK.due(9, "drift(-1)", x.drift(-1), DoubtTime.BAD);
        CHECK.due(9, "count(1)", x.count(1), 999999);
        CHECK.due(9, "count(6)", x.count(6), 2);
        x.go(10);
        CHECK.due(9, "begin stays", x.span(0, 0), 990);
        CHECK.due(9, "end goes twice as fast", x.span(0, 1), 1030);
        x.drift(0);
        CHECK.due(9, "told anew for all that is gone: begin", x.span(0, 0), 1000);
        CHECK.due(9, "told anew for all that is gone: end", x.span(0, 1), 1020);
    }

    private static void go() {
        DoubtTime x = new DoubtTime();
        int[] none = {0, -1, 5001, Integer.MIN_VALUE, Integer.MAX_VALUE};
        for (int n : none) {
            CHECK.due(10, "go(" + n + ")", x.go(n), DoubtTime.BAD);
        }
        CHECK.due(10, "no change", x.count(6), 0);
        CHECK.due(10, "go(1)", x.go(1), 0);
        CHECK.due(10, "go(5000)", x.go(5000), 0);
        CHECK.due(10, "count(0)", x.count(0), 5001);
        CHECK.due(10, "a call is a change", x.count(6), 2);
    }

    private static void goTickByTick() {
        DoubtTime x = Check.laid("d0;m0,100,110;");
        x.commit(0, 1);
        x.commit(1, 2);
        x.go(3);
        x.commit(2, 3);
        // Begin is 100 and LOCAL; the stamps are 110, 111 and 113.
        CHECK.due(10, "begin at the stamp is not above it", x.go(7), 0);
        CHECK.due(10, "the first", x.go(1), 1);
        CHECK.due(10, "the others, one by one", x.go(100), 2);
        CHECK.due(10, "the first was DONE at", x.commitOf(0, 4), 11);
        CHECK.due(10, "the second was DONE at", x.commitOf(1, 4), 12);
        CHECK.due(10, "the third was DONE at", x.commitOf(2, 4), 14);
        CHECK.due(10, "none is left", x.go(100), 0);
        CHECK.due(10, "DONE for good", x.commitOf(0, 4), 11);
    }

    /** A stretch in which begin is above a stamp, but not GOOD: nothing is DONE by it. */
    private static void goWithoutGood() {
        DoubtTime x = Check.laid("d0;m0,100,110;");
        x.commit(0, 1);
        x.tell(1, 500, 510);
        x.tell(0, 300, 310);
        CHECK.due(10, "not GOOD", x.good(), 0);
        CHECK.due(10, "begin is above the stamp", x.agreed(0), 300);
        CHECK.due(10, "go(50)", x.go(50), 0);
        x.strike(0, 1);
        CHECK.due(10, "GOOD by a change", x.good(), 1);
        CHECK.due(10, "DONE by no change but a TICK", x.count(5), 1);
        CHECK.due(10, "go(5)", x.go(5), 1);
        CHECK.due(10, "DONE by the first TICK of five", x.commitOf(0, 4), 51);
        x.strike(1, 1);
        CHECK.due(10, "nobody HEARD", x.go(5), 0);
    }

    private static void undoEach() {
        DoubtTime x = new DoubtTime();
        CHECK.due(11, "undo() of none", x.undo(), DoubtTime.NO);
        x.tell(0, 5, 6);
        CHECK.due(11, "undo() of tell", x.undo(), 0);
        CHECK.due(11, "span(0, 0)", x.span(0, 0), 990);
        x.tell(5, 5, 6);
        x.undo();
        CHECK.due(11, "undo() of a first tell", x.span(5, 0), Check.LONG_NO);
        x.strike(2, 1);
        x.undo();
        CHECK.due(11, "undo() of strike", x.count(3), 0);
        x.strikeLiars();
        x.undo();
        CHECK.due(11, "undo() of strikeLiars", x.liars(), 8);
        x.drift(7);
        x.undo();
        CHECK.due(11, "undo() of drift", x.count(1), 1000);
        x.commit(1, 2);
        CHECK.due(11, "undo() of commit", x.undo(), 0);
        CHECK.due(11, "count(4)", x.count(4), 0);
        CHECK.due(11, "its stamp is free again", x.commit(3, 4), 0);
        CHECK.due(11, "commitOf(0, 2)", x.commitOf(0, 2), 1005);
        CHECK.due(11, "go(20)", x.go(20), 1);
        CHECK.due(11, "undo() of go", x.undo(), 1);
        CHECK.due(11, "count(0)", x.count(0), 0);
        CHECK.due(11, "OPEN again", x.commitOf(0, 4), DoubtTime.NONE);
        CHECK.due(11, "count(5)", x.count(5), 1);
        x.tell(1, 1000, 1030);
        x.go(10);
        x.tell(1, 1, 2);
        x.undo();
        CHECK.due(11, "when it was told is back, too", x.span(1, 1), 1041);
    }

    /** What it told before, and when, is back. */
    private static void undoTellOfEachMaster() {
        for (int m = 0; m < 6; m++) {
            DoubtTime x = Check.laid("d0;");
            x.go(1);
            x.tell(m, 100 + m, 200 + m);
            x.go(10);
            x.tell(m, 7, 8);
            x.strike(m, 1);
            CHECK.due(11, "undo() of strike of " + m, x.undo(), 4);
            CHECK.due(11, "begin as told last by " + m, x.span(m, 0), 7);
            CHECK.due(11, "undo() of tell by " + m, x.undo(), 3);
            CHECK.due(11, "begin as told first by " + m, x.span(m, 0), 110 + m);
            CHECK.due(11, "end as told first by " + m, x.span(m, 1), 210 + m);
            CHECK.due(11, "undo() of go", x.undo(), 2);
            CHECK.due(11, "begin as it was told", x.span(m, 0), 100 + m);
            CHECK.due(11, "undo() of the first tell", x.undo(), 1);
            CHECK.due(11, "told nothing", x.span(m, 0), Check.LONG_NO);
        }
    }

    private static void undoSix() {
        DoubtTime x = new DoubtTime();
        for (int d = 1; d <= 9; d++) {
            x.drift(d);
            CHECK.due(11, "count(6) behind " + d, x.count(6), Math.min(d, 6));
        }
        CHECK.due(11, "no change", x.drift(9), DoubtTime.NO);
        CHECK.due(11, "count(6) behind NO", x.count(6), 6);
        for (int left = 5; left >= 0; left--) {
            CHECK.due(11, "undo()", x.undo(), left);
            CHECK.due(11, "count(1)", x.count(1), 3 + left);
        }
        CHECK.due(11, "undo() of a seventh", x.undo(), DoubtTime.NO);
        CHECK.due(11, "count(1)", x.count(1), 3);
    }

    private static void undoIsNoChange() {
        DoubtTime x = new DoubtTime();
        Check.put(x, "d1;");
        x.drift(1);
        x.drift(2);
        x.undo();
        x.drift(3);
        CHECK.due(11, "count(6)", x.count(6), 2);
        CHECK.due(11, "undo()", x.undo(), 1);
        CHECK.due(11, "count(1)", x.count(1), 1);
        CHECK.due(11, "undo()", x.undo(), 0);
        CHECK.due(11, "count(1)", x.count(1), 1000);
        CHECK.due(11, "the text stays", x.count(7), 3);
        CHECK.due(11, "THE LEAP stays", x.leap(0), 1500);
    }
}
