/** Promises 17 to 22: commit, commitOf, waiting, safe, read, between. */
public final class CommitsTest {
    private static final Check CHECK = new Check("CommitsTest");

    public static void main(String[] args) {
        commit();
        commitFull();
        stamps();
        commitOf();
        waiting();
        waitingAtItsEdge();
        waitingZero();
        waitingForGood();
        safe();
        safeOfOne();
        safeBelowZero();
        read();
        between();
        CHECK.end();
    }

    private static void commit() {
        DoubtTime x = new DoubtTime();
        int[][] bad = {{-1, 0}, {6, 0}, {0, -1}, {0, 1000000}};
        for (int[] b : bad) {
            CHECK.due(17, "commit(" + b[0] + ", " + b[1] + ")", x.commit(b[0], b[1]), DoubtTime.BAD);
        }
        CHECK.due(17, "no change", x.count(6), 0);
        CHECK.due(17, "commit(0, 0)", x.commit(0, 0), 0);
        CHECK.due(17, "commit(5, 999999)", x.commit(5, 999999), 1);
        CHECK.due(17, "count(4)", x.count(4), 2);
        CHECK.due(17, "count(5)", x.count(5), 2);
        CHECK.due(17, "count(6)", x.count(6), 2);
        x.tell(0, 1, 2);
        x.tell(1, 3, 4);
        CHECK.due(17, "not GOOD", x.commit(0, 0), DoubtTime.NO);
        CHECK.due(17, "BAD ahead of NO", x.commit(6, 0), DoubtTime.BAD);
        CHECK.due(17, "nobody HEARD", Check.laid("d1;s0,1,2,0;").commit(0, 0), DoubtTime.NO);
        CHECK.due(17, "no change", x.count(6), 4);
    }

    private static void commitFull() {
        DoubtTime x = new DoubtTime();
        for (int c = 0; c < 16; c++) {
            CHECK.due(17, "commit", x.commit(c % 6, c), c);
        }
        CHECK.due(17, "a seventeenth", x.commit(0, 0), DoubtTime.FULL);
        CHECK.due(17, "BAD ahead of FULL", x.commit(0, -1), DoubtTime.BAD);
        CHECK.due(17, "count(4)", x.count(4), 16);
        CHECK.due(17, "commitOf(15, 1)", x.commitOf(15, 1), 15);
        CHECK.due(17, "the last STAMP", x.commitOf(15, 2), 1020);
        CHECK.due(17, "commitOf(16, 0)", x.commitOf(16, 0), DoubtTime.BAD);
        x.go(1000);
        CHECK.due(17, "FULL though all are DONE", x.commit(0, 0), DoubtTime.FULL);
        x.tell(0, 1, 2);
        x.tell(1, 3, 4);
        CHECK.due(17, "NO ahead of FULL", x.commit(0, 0), DoubtTime.NO);
        x.undo();
        x.undo();
        x.undo();
        CHECK.due(17, "undo()", x.undo(), 2);
        CHECK.due(17, "room again", x.commit(0, 77), 15);
    }

    private static void stamps() {
        DoubtTime x = Check.laid("d0;m0,100,110;");
        x.commit(0, 0);
        CHECK.due(17, "END", x.commitOf(0, 2), 110);
        x.commit(0, 0);
        CHECK.due(17, "one more than the latest", x.commitOf(1, 2), 111);
        x.go(1);
        x.commit(0, 0);
        CHECK.due(17, "END is the latest", x.commitOf(2, 2), 112);
        x.go(1);
        x.commit(0, 0);
        CHECK.due(17, "END is less", x.commitOf(3, 2), 113);
        x.go(2);
        x.commit(0, 0);
        CHECK.due(17, "END and one more are the same", x.commitOf(4, 2), 114);
        x.go(9);
        x.commit(0, 0);
        CHECK.due(17, "END is more", x.commitOf(5, 2), 123);
        x.tell(0, 1, 2);
        x.commit(0, 0);
        CHECK.due(17, "time told back", x.commitOf(6, 2), 124);
    }

    private static void commitOf() {
        DoubtTime x = Check.laid("d0;m0,100,110;");
        CHECK.due(18, "there is none", x.commitOf(0, 0), DoubtTime.BAD);
        x.go(3);
        x.commit(4, 56);
        long[] of = {4, 56, 113, 3, DoubtTime.NONE};
        for (int what = 0; what < of.length; what++) {
            CHECK.due(18, "commitOf(0, " + what + ")", x.commitOf(0, what), of[what]);
        }
        CHECK.due(18, "what = -1", x.commitOf(0, -1), DoubtTime.BAD);
        CHECK.due(18, "what = 5", x.commitOf(0, 5), DoubtTime.BAD);
        CHECK.due(18, "c = -1", x.commitOf(-1, 0), DoubtTime.BAD);
        CHECK.due(18, "c = 1", x.commitOf(1, 4), DoubtTime.BAD);
        x.go(50);
        CHECK.due(18, "DONE at", x.commitOf(0, 4), 14);
        CHECK.due(18, "made at", x.commitOf(0, 3), 3);
    }

    private static void waiting() {
        DoubtTime x = new DoubtTime();
        CHECK.due(19, "there is none", x.waiting(0), DoubtTime.BAD);
        x.commit(0, 0);
        x.commit(0, 0);
        CHECK.due(19, "c = -1", x.waiting(-1), DoubtTime.BAD);
        CHECK.due(19, "c = 2", x.waiting(2), DoubtTime.BAD);
        CHECK.due(19, "waiting(0)", x.waiting(0), 7);
        CHECK.due(19, "waiting(1)", x.waiting(1), 8);
        CHECK.due(19, "no change", x.count(0), 0);
        x.go(6);
        CHECK.due(19, "a TICK more", x.waiting(0), 1);
        CHECK.due(19, "go(1)", x.go(1), 1);
        CHECK.due(19, "DONE", x.waiting(0), DoubtTime.NO);
        CHECK.due(19, "the other", x.waiting(1), 1);
    }

    private static void waitingAtItsEdge() {
        DoubtTime x = Check.laid("d0;m0,0,1999;");
        x.commit(0, 0);
        CHECK.due(19, "2000", x.waiting(0), 2000);
        x.commit(0, 0);
        CHECK.due(19, "2001", x.waiting(1), DoubtTime.NONE);
        x.go(1);
        CHECK.due(19, "2000 behind a TICK", x.waiting(1), 2000);
        CHECK.due(19, "1999", x.waiting(0), 1999);
    }

    private static void waitingZero() {
        DoubtTime x = Check.laid("d0;m0,100,110;");
        x.commit(0, 0);
        x.tell(0, 110, 120);
        CHECK.due(19, "begin at the stamp", x.waiting(0), 1);
        x.tell(0, 111, 120);
        CHECK.due(19, "begin above the stamp", x.waiting(0), 0);
        x.tell(0, 500, 600);
        CHECK.due(19, "begin far above the stamp", x.waiting(0), 0);
        CHECK.due(19, "OPEN yet", x.commitOf(0, 4), DoubtTime.NONE);
        CHECK.due(19, "go(1)", x.go(1), 1);
        CHECK.due(19, "DONE", x.waiting(0), DoubtTime.NO);
    }

    /** By drift alone two that do not meet come to meet, and AGREED becomes GOOD. */
    private static void waitingForGood() {
        DoubtTime x = Check.laid("d500000;m0,100,110;");
        x.commit(0, 0);
        x.tell(0, 200, 210);
        x.tell(1, 231, 240);
        CHECK.due(19, "not GOOD now", x.good(), 0);
        // m0 ends at 210 + 1.5 g rounded up, m1 begins at 231 + 0.5 g cut: they meet from 21 on.
        CHECK.due(19, "till it is GOOD", x.waiting(0), 21);
        CHECK.due(19, "go(20)", x.go(20), 0);
        CHECK.due(19, "go(1)", x.go(1), 1);
        DoubtTime y = Check.laid("d0;m0,100,110;");
        y.commit(0, 0);
        y.strike(0, 1);
        CHECK.due(19, "nobody HEARD", y.waiting(0), DoubtTime.NONE);
    }

    private static void safe() {
        DoubtTime x = Check.laid("d0;m0,100,110;");
        CHECK.due(20, "no COMMITS", x.safe(), 99);
        x.commit(0, 0);
        x.commit(0, 0);
        CHECK.due(20, "OPEN ones", x.safe(), 109);
        x.go(11);
        CHECK.due(20, "one is OPEN", x.safe(), 110);
        x.tell(1, 500, 600);
        CHECK.due(20, "one is OPEN, not GOOD", x.safe(), 110);
        x.undo();
        x.go(1);
        CHECK.due(20, "none is OPEN: begin less 1 is the latest STAMP", x.safe(), 111);
        x.go(1);
        CHECK.due(20, "begin less 1 is more", x.safe(), 112);
        x.tell(0, 50, 60);
        CHECK.due(20, "the latest STAMP is more", x.safe(), 111);
        x.tell(1, 500, 600);
        CHECK.due(20, "not GOOD", x.safe(), 111);
        x.strike(0, 1);
        x.strike(1, 1);
        CHECK.due(20, "nobody HEARD", x.safe(), 111);
        DoubtTime y = Check.laid("m0,5,6;m1,8,9;");
        CHECK.due(20, "not GOOD and no COMMITS", y.safe(), Check.LONG_NONE);
        y.strike(0, 1);
        CHECK.due(20, "GOOD", y.safe(), 7);
    }

    private static void safeOfOne() {
        DoubtTime x = Check.laid("d0;m0,100,110;");
        x.commit(0, 0);
        x.go(20);
        CHECK.due(20, "begin less 1", x.safe(), 119);
        x.tell(0, 50, 60);
        CHECK.due(20, "the one STAMP is more", x.safe(), 110);
        x.tell(1, 500, 600);
        CHECK.due(20, "the one STAMP alone", x.safe(), 110);
        CHECK.due(21, "read at it", x.read(0, 110), 0);
        CHECK.due(21, "read above it", x.read(0, 111), DoubtTime.NO);
    }

    private static void safeBelowZero() {
        DoubtTime x = Check.laid("d0;m0,0,0;");
        CHECK.due(20, "begin 0 less 1", x.safe(), -1);
        CHECK.due(21, "above SAFE", x.read(0, 0), DoubtTime.NO);
        x.commit(0, 3);
        CHECK.due(20, "STAMP 0 less 1", x.safe(), -1);
        CHECK.due(21, "above SAFE", x.read(0, 0), DoubtTime.NO);
        x.go(1);
        CHECK.due(20, "DONE", x.safe(), 0);
        CHECK.due(21, "SAFE", x.read(0, 0), 3);
    }

    private static void read() {
        DoubtTime x = Check.laid("d0;m0,100,110;");
        int[] keys = {-1, 6};
        for (int key : keys) {
            CHECK.due(21, "key " + key, x.read(key, 0), DoubtTime.BAD);
        }
        CHECK.due(21, "tick -1", x.read(0, -1), DoubtTime.BAD);
        CHECK.due(21, "tick 2 10^12", x.read(0, 2 * Check.BILLIONS), DoubtTime.NO);
        CHECK.due(21, "tick 2 10^12 + 1", x.read(0, 2 * Check.BILLIONS + 1), DoubtTime.BAD);
        CHECK.due(21, "SAFE, but none", x.read(0, 99), DoubtTime.NONE);
        CHECK.due(21, "above SAFE", x.read(0, 100), DoubtTime.NO);
        x.commit(2, 21);
        x.commit(3, 31);
        x.commit(2, 22);
        CHECK.due(21, "SAFE, none yet", x.read(2, 109), DoubtTime.NONE);
        CHECK.due(21, "OPEN", x.read(2, 110), DoubtTime.NO);
        CHECK.due(21, "of another key", x.read(5, 110), DoubtTime.NO);
        x.go(20);
        CHECK.due(21, "ahead of the first", x.read(2, 109), DoubtTime.NONE);
        CHECK.due(21, "at the first", x.read(2, 110), 21);
        CHECK.due(21, "behind the first", x.read(2, 111), 21);
        CHECK.due(21, "at the second", x.read(2, 112), 22);
        CHECK.due(21, "at SAFE", x.read(2, 119), 22);
        CHECK.due(21, "above SAFE", x.read(2, 120), DoubtTime.NO);
        CHECK.due(21, "another key ahead", x.read(3, 110), DoubtTime.NONE);
        CHECK.due(21, "another key", x.read(3, 111), 31);
        CHECK.due(21, "a key without", x.read(0, 112), DoubtTime.NONE);
        DoubtTime y = Check.laid("m0,5,6;m1,8,9;");
        CHECK.due(21, "SAFE is none", y.read(0, 0), DoubtTime.NO);
        CHECK.due(21, "BAD ahead of NO", y.read(6, 0), DoubtTime.BAD);
    }

    private static void between() {
        DoubtTime x = Check.laid("d0;m0,100,110;");
        long far = 2 * Check.BILLIONS;
        CHECK.due(22, "none", x.between(-1, 0, far), 0);
        x.commit(2, 21);
        x.commit(3, 31);
        x.commit(2, 22);
        CHECK.due(22, "all, OPEN ones too", x.between(-1, 0, far), 3);
        CHECK.due(22, "of a key", x.between(2, 0, far), 2);
        CHECK.due(22, "of a key without", x.between(0, 0, far), 0);
        CHECK.due(22, "both ends", x.between(-1, 110, 112), 3);
        CHECK.due(22, "from", x.between(-1, 111, 112), 2);
        CHECK.due(22, "to", x.between(-1, 110, 111), 2);
        CHECK.due(22, "one TICK", x.between(3, 111, 111), 1);
        CHECK.due(22, "one TICK of another key", x.between(2, 111, 111), 0);
        x.go(11);
        CHECK.due(22, "DONE ones", x.between(-1, 0, 110), 1);
        int bad = DoubtTime.BAD;
        CHECK.due(22, "key -2", x.between(-2, 0, 1), bad);
        CHECK.due(22, "key 6", x.between(6, 0, 1), bad);
        CHECK.due(22, "from -1", x.between(-1, -1, 1), bad);
        CHECK.due(22, "to -1", x.between(-1, 0, -1), bad);
        CHECK.due(22, "both -1", x.between(-1, -1, -1), bad);
        CHECK.due(22, "from above to", x.between(-1, 2, 1), bad);
        CHECK.due(22, "to too far", x.between(-1, 0, far + 1), bad);
        CHECK.due(22, "both too far", x.between(-1, far + 1, far + 1), bad);
        CHECK.due(22, "from and to at the end", x.between(-1, far, far), 0);
    }
}
