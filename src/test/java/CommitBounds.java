/** Paragraph 2: COMMITS, their STAMPS, OPEN and DONE, SAFE, READ, WAIT. */
final class CommitBounds extends Bounds {
    /** One MASTER without DRIFT: BEGIN is 100 and LOCAL, END 110 and LOCAL. */
    private static final String PLAIN = "d0;m0,100,110;";

    CommitBounds(Check check, Document document) {
        super(check, document);
    }

    @Override
    void run() {
        sixteenAtMost();
        keysAndValues();
        stampIfGood();
        stampWhicheverIsMore();
        openTillAbove();
        openWhileNotGood();
        doneForGood();
        openWhenMade();
        nothingDoneByTelling();
        nothingDoneByStriking();
        nothingDoneByDrift();
        safeWithOpenOnes();
        safeWithoutOpenOnes();
        safeIfNotGood();
        readUpToSafe();
        readLatestStamp();
        waitAtItsLeast();
        waitAtItsMost();
        waitTillGood();
        waitOfOneOfSeveral();
    }

    private void sixteenAtMost() {
        says("COMMITS 0, 1, .. (16 at most) each write a VALUE (0 to 999999) of a KEY (0 to 5).");
        DoubtTime x = Check.laid(PLAIN);
        due("COMMITS at first", x.count(4), 0);
        for (int c = 0; c < 16; c++) {
            due("commit", x.commit(c % 6, 1000 + c), c);
            due("COMMITS", x.count(4), c + 1);
        }
        due("a seventeenth", x.commit(0, 0), FULL);
        due("COMMITS", x.count(4), 16);
        due("the sixteenth", x.commitOf(15, 1), 1015);
        due("there is no seventeenth", x.commitOf(16, 1), BAD);
        x.go(30);
        due("all DONE", x.count(5), 0);
        due("FULL, though all are DONE", x.commit(0, 0), FULL);
        x.undo();
        x.undo();
        due("room when one is UNDONE", x.commit(3, 4), 15);
        due("and FULL again", x.commit(0, 0), FULL);
    }

    private void keysAndValues() {
        says("COMMITS 0, 1, .. (16 at most) each write a VALUE (0 to 999999) of a KEY (0 to 5).");
        int[][] none = {{-1, 0}, {6, 0}, {0, -1}, {0, 1000000}, {5, 1000000}, {6, 999999}, {-1, -1},
            {Integer.MIN_VALUE, 0}, {Integer.MAX_VALUE, 0}, {0, Integer.MIN_VALUE}, {0, Integer.MAX_VALUE}};
        DoubtTime x = Check.laid(PLAIN);
        for (int[] n : none) {
            due("commit(" + n[0] + ", " + n[1] + ")", x.commit(n[0], n[1]), BAD);
        }
        due("no COMMITS", x.count(4), 0);
        int[][] told = {{0, 0}, {0, 999999}, {5, 0}, {5, 999999}, {1, 1}, {4, 999998}};
        for (int c = 0; c < told.length; c++) {
            due("commit(" + told[c][0] + ", " + told[c][1] + ")", x.commit(told[c][0], told[c][1]), c);
            due("KEY", x.commitOf(c, 0), told[c][0]);
            due("VALUE", x.commitOf(c, 1), told[c][1]);
        }
    }

    private static final String STAMP = "A COMMIT, if AGREED is GOOD, gets a STAMP: END of AGREED, or one more than "
        + "the latest STAMP, whichever is more.";

    private void stampIfGood() {
        says(STAMP);
        due("1 of 2 agree", Check.laid("m0,1,2;m1,4,5;").commit(0, 0), NO);
        due("1 of 2, side by side", Check.laid("m0,1,2;m1,3,5;").commit(0, 0), NO);
        due("2 of 4 agree", Check.laid("m0,1,2;m1,2,5;m2,8,8;m3,9,9;").commit(0, 0), NO);
        due("nobody is HEARD", Check.laid("").commit(0, 0), NO);
        due("2 of 2 agree", Check.laid("m0,1,2;m1,2,5;").commit(0, 0), 0);
        due("2 of 3 agree", Check.laid("m0,1,2;m1,2,5;m2,8,8;").commit(0, 0), 0);
        DoubtTime x = Check.laid("m0,1,2;m1,4,5;");
        x.strike(1, 1);
        due("the other is STRUCK", x.commit(0, 0), 0);
        due("STAMP", x.commitOf(0, 2), 2);
    }

    private void stampWhicheverIsMore() {
        says(STAMP);
        DoubtTime x = Check.laid("d0;m0,0,0;");
        x.commit(0, 0);
        due("END, be it 0", x.commitOf(0, 2), 0);
        x.commit(0, 0);
        due("one more", x.commitOf(1, 2), 1);
        x.go(1);
        x.commit(0, 0);
        due("END is the latest STAMP", x.commitOf(2, 2), 2);
        x.go(2);
        x.commit(0, 0);
        due("END is one more than the latest STAMP", x.commitOf(3, 2), 3);
        x.go(2);
        x.commit(0, 0);
        due("END is two more than the latest STAMP", x.commitOf(4, 2), 5);
        x.tell(0, 0, 0);
        x.commit(0, 0);
        due("END is far less", x.commitOf(5, 2), 6);
        x.tell(0, LAST_TOLD, LAST_TOLD);
        x.commit(0, 0);
        due("END is far more", x.commitOf(6, 2), LAST_TOLD);
        x.undo();
        x.undo();
        x.commit(0, 0);
        due("one more than the latest that was not UNDONE", x.commitOf(6, 2), 7);
    }

    private static final String OPEN = "It is OPEN till, behind a TICK by which LOCAL went on, BEGIN of AGREED, that "
        + "being GOOD, is above its STAMP: then it is DONE, for good, at that LOCAL.";

    private void openTillAbove() {
        says(OPEN);
        DoubtTime x = Check.laid(PLAIN);
        x.commit(0, 0);
        due("BEGIN one below the STAMP", x.go(9), 0);
        due("BEGIN", x.agreed(0), 109);
        due("BEGIN at the STAMP", x.go(1), 0);
        due("OPEN", x.count(5), 1);
        due("OPEN", x.commitOf(0, 4), NONE);
        due("BEGIN one above the STAMP", x.go(1), 1);
        due("OPEN", x.count(5), 0);
        due("DONE at", x.commitOf(0, 4), 11);
        DoubtTime y = Check.laid(PLAIN);
        y.commit(0, 0);
        y.commit(0, 0);
        y.commit(0, 0);
        due("the first of three", y.go(11), 1);
        due("the others at a TICK each", y.go(2), 2);
        due("DONE at", y.commitOf(1, 4), 12);
        due("DONE at", y.commitOf(2, 4), 13);
        DoubtTime z = Check.laid(PLAIN);
        z.commit(0, 0);
        z.commit(0, 0);
        z.tell(0, 500, 500);
        due("both by one TICK", z.go(5), 2);
        due("DONE at", z.commitOf(0, 4), 1);
        due("DONE at", z.commitOf(1, 4), 1);
    }

    private void openWhileNotGood() {
        says(OPEN);
        DoubtTime x = meetingAt21();
        dueAgreed("ahead of it", x, 200, 210, 0);
        due("BEGIN is above, but not GOOD", x.go(20), 0);
        dueAgreed("at 20, side by side", x, 210, 270, 0);
        due("GOOD by a TICK", x.go(1), 1);
        due("it is GOOD", x.good(), 1);
        due("DONE at", x.commitOf(0, 4), 21);
        DoubtTime y = Check.laid(PLAIN);
        y.commit(0, 0);
        y.strike(0, 1);
        due("nobody is HEARD", y.go(5000), 0);
        y.strike(0, 0);
        due("HEARD again", y.go(1), 1);
        due("DONE at", y.commitOf(0, 4), 5001);
    }

    /** STAMP 110; two MASTERS far above it, which come to meet at LOCAL 21. */
    private static DoubtTime meetingAt21() {
        DoubtTime x = Check.laid("d500000;m0,100,110;");
        x.commit(0, 0);
        x.tell(0, 200, 210);
        x.tell(1, 231, 240);
        return x;
    }

    private void doneForGood() {
        says(OPEN);
        DoubtTime x = Check.laid(PLAIN);
        x.commit(2, 3);
        x.go(11);
        x.tell(0, 0, 0);
        due("BEGIN told back below the STAMP", x.commitOf(0, 4), 11);
        due("go(1)", x.go(1), 0);
        due("still DONE", x.commitOf(0, 4), 11);
        x.tell(0, 500, 500);
        due("BEGIN above it anew", x.go(1), 0);
        due("DONE at the first LOCAL", x.commitOf(0, 4), 11);
        x.strike(0, 1);
        due("nobody HEARD", x.go(1), 0);
        due("still DONE", x.count(5), 0);
    }

    private static final String NOTHING_DONE = "(So it is OPEN when it is made; by what a MASTER tells, one STRUCK or "
        + "not, DRIFT told anew nothing is DONE.)";

    private void openWhenMade() {
        says(NOTHING_DONE);
        DoubtTime x = Check.laid(PLAIN);
        x.commit(0, 0);
        due("OPEN", x.commitOf(0, 4), NONE);
        due("OPEN", x.count(5), 1);
        x.tell(0, 500, 510);
        x.commit(0, 0);
        due("nor is one DONE by another COMMIT", x.count(5), 2);
        due("the first is OPEN", x.commitOf(0, 4), NONE);
        due("the second is OPEN", x.commitOf(1, 4), NONE);
    }

    private void dueByATick(String what, DoubtTime x, int local) {
        due(what + ": GOOD", x.good(), 1);
        isTrue(what + ": BEGIN is above the STAMP", x.agreed(0) > x.commitOf(0, 2));
        due(what + ": OPEN", x.count(5), 1);
        due(what + ": OPEN", x.commitOf(0, 4), NONE);
        due(what + ": WAIT", x.waiting(0), 0);
        due(what + ": DONE by a TICK", x.go(1), 1);
        due(what + ": DONE at", x.commitOf(0, 4), local);
        due(what + ": the TICK is UNDONE", x.undo() >= 0 ? 1 : 0, 1);
        due(what + ": OPEN again", x.commitOf(0, 4), NONE);
    }

    private void nothingDoneByTelling() {
        says(NOTHING_DONE);
        DoubtTime x = Check.laid(PLAIN);
        x.commit(0, 0);
        x.tell(0, 110, 600);
        due("BEGIN told at the STAMP", x.waiting(0), 1);
        x.tell(0, 111, 600);
        dueByATick("told above the STAMP", x, 1);
    }

    private void nothingDoneByStriking() {
        says(NOTHING_DONE);
        DoubtTime x = Check.laid("d0;m0,100,110;m1,100,110;m2,500,510;");
        x.commit(0, 0);
        x.strike(0, 1);
        x.strike(1, 1);
        dueByATick("two STRUCK", x, 1);
        DoubtTime y = Check.laid("d0;m0,100,110;m1,500,510;m2,500,510;");
        y.strike(1, 1);
        y.strike(2, 1);
        y.commit(0, 0);
        y.strike(1, 0);
        y.strike(2, 0);
        dueByATick("two not STRUCK any more", y, 1);
        DoubtTime z = Check.laid(PLAIN);
        z.commit(0, 0);
        z.tell(0, 700, 700);
        z.tell(1, 500, 510);
        z.tell(2, 500, 510);
        z.tell(3, 800, 800);
        due("2 of 4", z.good(), 0);
        due("strikeLiars()", z.strikeLiars(), 2);
        dueByATick("LIARS STRUCK", z, 1);
    }

    private void nothingDoneByDrift() {
        says(NOTHING_DONE);
        DoubtTime x = Check.laid("d999999;m0,100,110;");
        x.commit(0, 0);
        due("BEGIN stays", x.go(20), 0);
        x.drift(0);
        dueByATick("DRIFT told anew", x, 21);
    }

    private void safeWithOpenOnes() {
        says("SAFE is the latest TICK that can be read: with OPEN COMMITS the least of their STAMPS less 1;");
        DoubtTime x = Check.laid(PLAIN);
        x.commit(0, 0);
        due("of one", x.safe(), 109);
        x.commit(0, 0);
        due("the least of two", x.safe(), 109);
        x.go(11);
        due("the least OPEN one", x.safe(), 110);
        x.tell(0, 500, 500);
        due("BEGIN is far above", x.safe(), 110);
        x.tell(0, 0, 0);
        due("BEGIN is far below", x.safe(), 110);
        x.strike(0, 1);
        due("nobody is HEARD", x.safe(), 110);
        DoubtTime y = Check.laid("d0;m0,0,0;");
        y.commit(0, 0);
        due("of STAMP 0", y.safe(), -1);
        due("no TICK can be read", y.read(0, 0), NO);
    }

    private void safeWithoutOpenOnes() {
        says("else BEGIN of AGREED less 1, if that is GOOD, or the latest STAMP, whichever is more");
        DoubtTime x = Check.laid("d0;m0,100,110;m1,101,110;");
        due("no COMMITS", x.safe(), 100);
        x.commit(0, 0);
        x.commit(0, 0);
        due("both DONE", x.go(11), 2);
        due("BEGIN less 1 is the latest STAMP", x.safe(), 111);
        x.go(1);
        due("BEGIN less 1 is more", x.safe(), 112);
        x.tell(0, 112, 200);
        x.tell(1, 112, 200);
        due("BEGIN less 1 is the latest STAMP", x.safe(), 111);
        x.tell(0, 111, 200);
        x.tell(1, 111, 200);
        due("the latest STAMP is more", x.safe(), 111);
        x.tell(0, 0, 0);
        x.tell(1, 0, 0);
        due("BEGIN less 1 is below 0", x.safe(), 111);
        due("BEGIN 0 less 1, without COMMITS", Check.laid("m0,0,5;").safe(), -1);
        due("BEGIN 1 less 1, without COMMITS", Check.laid("m0,1,5;").safe(), 0);
    }

    private void safeIfNotGood() {
        says("(if it is not GOOD the latest STAMP alone; if there is none either, no TICK is SAFE).");
        DoubtTime x = Check.laid(PLAIN);
        x.commit(0, 0);
        x.commit(0, 0);
        x.go(50);
        due("GOOD", x.safe(), 149);
        x.tell(1, 900, 900);
        due("not GOOD, BEGIN above the STAMP", x.agreed(0), 150);
        due("not GOOD", x.safe(), 111);
        x.strike(0, 1);
        x.strike(1, 1);
        due("nobody is HEARD", x.safe(), 111);
        DoubtTime y = Check.laid("m0,5,6;m1,8,9;");
        due("not GOOD, no COMMITS", y.safe(), LONG_NONE);
        due("no TICK is SAFE", y.read(0, 0), NO);
        due("nobody is HEARD, no COMMITS", Check.laid("").safe(), LONG_NONE);
        DoubtTime z = Check.laid("d0;m0,0,0;");
        z.commit(0, 8);
        z.go(1);
        z.strike(0, 1);
        due("STAMP 0 alone", z.safe(), 0);
        due("it can be read", z.read(0, 0), 8);
        due("but none above it", z.read(0, 1), NO);
    }

    private static final String READ = "READ of a KEY at a TICK, no more than SAFE: the VALUE of the COMMIT of that KEY "
        + "of the latest STAMP that is no more than that TICK; none.";

    private void readUpToSafe() {
        says(READ);
        DoubtTime x = Check.laid(PLAIN);
        due("at SAFE", x.read(0, 99), NONE);
        due("one above SAFE", x.read(0, 100), NO);
        due("the least TICK", x.read(0, 0), NONE);
        due("the last TICK", x.read(0, LAST_ASKED), NO);
        x.commit(1, 0);
        due("ahead of an OPEN one", x.read(1, 109), NONE);
        due("an OPEN one", x.read(1, 110), NO);
        x.go(11);
        due("it is DONE, its VALUE 0", x.read(1, 110), 0);
        x.commit(1, 22);
        x.commit(1, 33);
        due("one DONE, at SAFE", x.read(1, x.commitOf(1, 2) - 1), 0);
        due("the next is OPEN", x.read(1, x.commitOf(1, 2)), NO);
    }

    private void readLatestStamp() {
        says(READ);
        DoubtTime x = Check.laid(PLAIN);
        x.commit(5, 51);
        x.commit(0, 1);
        x.commit(5, 52);
        x.commit(5, 999999);
        x.go(100);
        long[] ticks = {0, 109, 110, 111, 112, 113, 114, 199};
        int[] five = {NONE, NONE, 51, 51, 52, 999999, 999999, 999999};
        int[] nought = {NONE, NONE, NONE, 1, 1, 1, 1, 1};
        for (int i = 0; i < ticks.length; i++) {
            due("read(5, " + ticks[i] + ")", x.read(5, ticks[i]), five[i]);
            due("read(0, " + ticks[i] + ")", x.read(0, ticks[i]), nought[i]);
            due("read(1, " + ticks[i] + ")", x.read(1, ticks[i]), NONE);
        }
        due("read(5, 200)", x.read(5, 200), NO);
    }

    private static final String WAIT = "WAIT: how many TICKS (0 to 2000; 0: none) LOCAL has to go on, nothing being told, "
        + "till BEGIN of AGREED, that being GOOD, is above the STAMP of a COMMIT that is OPEN.";

    private void waitAtItsLeast() {
        says(WAIT);
        DoubtTime x = Check.laid(PLAIN);
        x.commit(0, 0);
        due("from 100 to 111", x.waiting(0), 11);
        x.tell(0, 109, 200);
        due("BEGIN one below the STAMP", x.waiting(0), 2);
        x.tell(0, 110, 200);
        due("BEGIN at the STAMP", x.waiting(0), 1);
        x.tell(0, 111, 200);
        due("BEGIN one above the STAMP", x.waiting(0), 0);
        x.tell(0, LAST_TOLD, LAST_TOLD);
        due("BEGIN far above the STAMP", x.waiting(0), 0);
        due("it is OPEN", x.count(5), 1);
        due("LOCAL stays", x.count(0), 0);
        x.go(1);
        due("DONE", x.waiting(0), NO);
    }

    private void waitAtItsMost() {
        says(WAIT);
        DoubtTime x = Check.laid("d0;m0,0,1998;");
        x.commit(0, 0);
        x.commit(0, 0);
        x.commit(0, 0);
        due("1999", x.waiting(0), 1999);
        due("2000", x.waiting(1), 2000);
        due("2001", x.waiting(2), NONE);
        x.go(1);
        due("2000 a TICK on", x.waiting(2), 2000);
        x.tell(0, 0, LAST_TOLD);
        x.commit(0, 0);
        due("10^12", x.waiting(3), NONE);
        DoubtTime y = Check.laid("d999999;m0,0,0;");
        y.commit(0, 0);
        due("BEGIN hardly moves", y.waiting(0), NONE);
    }

    /** At the greatest DRIFT that LOCAL shows, ends part from begins by two TICKS a TICK. */
    private void waitTillGood() {
        says(WAIT);
        due("not GOOD before 21", meetingAt21().waiting(0), 21);
        DoubtTime x = Check.laid("d999999;m5,10,20;");
        x.commit(0, 0);
        x.strike(5, 1);
        due("nobody is HEARD", x.waiting(0), NONE);
        x.tell(0, 1000, 1000);
        x.tell(1, 5000, 5000);
        due("GOOD at 2000", x.waiting(0), 2000);
        x.tell(1, 5001, 5001);
        due("GOOD at 2001", x.waiting(0), NONE);
        x.undo();
        due("go(1999)", x.go(1999), 0);
        due("WAIT", x.waiting(0), 1);
        due("go(1)", x.go(1), 1);
        DoubtTime y = TermsBounds.aShortMoment();
        due("above it at one TICK alone", y.waiting(0), 2);
        y.go(1);
        due("a TICK on", y.waiting(0), 1);
    }

    private void waitOfOneOfSeveral() {
        says(WAIT);
        DoubtTime x = Check.laid(PLAIN);
        for (int c = 0; c < 16; c++) {
            x.commit(0, 0);
        }
        for (int c = 0; c < 16; c++) {
            due("waiting(" + c + ")", x.waiting(c), 11 + c);
        }
        x.go(18);
        for (int c = 0; c < 16; c++) {
            due("at 18: waiting(" + c + ")", x.waiting(c), c < 8 ? NO : c - 7);
        }
    }
}
