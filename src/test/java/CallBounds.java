/** The promises, call by call: the last number that each takes and the first that it does not, empty and full. */
final class CallBounds extends Bounds {
    private static final int LEAST = Integer.MIN_VALUE;
    private static final int MOST = Integer.MAX_VALUE;

    CallBounds(Check check, Document document) {
        super(check, document);
    }

    @Override
    void run() {
        told();
        masters();
        whatTimeItIs();
        commits();
        theLeap();
        calls512();
    }

    private void told() {
        aNewObject();
        write();
        wipe();
        fault();
        lay();
        layRefused();
    }

    private void masters() {
        tell();
        strike();
        strikeLiars();
        drift();
        go();
        undo();
    }

    private void whatTimeItIs() {
        span();
        agreed();
        good();
        in();
        liars();
    }

    private void commits() {
        commit();
        commitOf();
        waiting();
        safe();
        read();
        between();
        betweenTicks();
    }

    private void theLeap() {
        leap();
        smeared();
        back();
        count();
    }

    // ---- told

    private void aNewObject() {
        says("As told; THE TEXT is empty.");
        DoubtTime x = new DoubtTime();
        dueCounts("new", x, 0, 1000, 4, 0, 0, 0, 0, 0);
        due("fault()", x.fault(), NONE);
        due("wipe()", x.wipe(), 0);
        due("undo()", x.undo(), NO);
        due("safe()", x.safe(), 999);
        dueAgreed("new", x, 1000, 1005, 1);
        due("liars()", x.liars(), 8);
        DoubtTime other = new DoubtTime();
        other.drift(5);
        other.write('d');
        dueCounts("another object is its own", x, 0, 1000, 4, 0, 0, 0, 0, 0);
    }

    private void write() {
        says("A letter (32 to 126, as in ASCII) comes behind THE TEXT: how long it is. BAD; FULL: it has 200.");
        DoubtTime x = new DoubtTime();
        int[] none = {31, 127, 0, -1, 10, 13, 9, 128, 255, 256 + 'd', 65536 + 'd', -100, LEAST, MOST};
        for (int letter : none) {
            due("write(" + letter + ")", x.write(letter), BAD);
        }
        due("letters", x.count(7), 0);
        int size = 0;
        for (int letter = 32; letter <= 126; letter++) {
            size++;
            due("write(" + letter + ")", x.write(letter), size);
        }
        while (size < 200) {
            size++;
            due("write('d')", x.write('d'), size);
        }
        for (int letter = 32; letter <= 126; letter++) {
            due("write(" + letter + ") with 200", x.write(letter), FULL);
        }
        due("write(31) with 200", x.write(31), BAD);
        due("write(127) with 200", x.write(127), BAD);
        due("letters", x.count(7), 200);
        DoubtTime y = new DoubtTime();
        Check.put(y, "d12;");
        y.lay();
        due("letters come one behind the other", y.count(1), 12);
    }

    private void wipe() {
        says("THE TEXT is empty: how long it was.");
        DoubtTime x = new DoubtTime();
        due("of an empty one", x.wipe(), 0);
        x.write('d');
        due("of one letter", x.wipe(), 1);
        due("again", x.wipe(), 0);
        Check.put(x, "d".repeat(200));
        due("of 200", x.wipe(), 200);
        due("letters", x.count(7), 0);
        due("write('d')", x.write('d'), 1);
    }

    private void fault() {
        says("FAULT of THE TEXT. NONE.");
        DoubtTime x = new DoubtTime();
        due("of an empty one", x.fault(), NONE);
        int[] dues = {0, 0, NONE, 3, 3, 3, 3, 3, 3, NONE, 10};
        String text = "d7;m0,1,2;x";
        for (int i = 0; i < text.length(); i++) {
            x.write(text.charAt(i));
            due("fault() of " + text.substring(0, i + 1), x.fault(), dues[i]);
        }
        due("letters stay", x.count(7), 11);
        x.wipe();
        due("of one that was wiped", x.fault(), NONE);
    }

    private void lay() {
        says("LAID: how many MASTERS are HEARD; LOCAL 0, none STRUCK, no COMMITS, nothing can be UNDONE. NO.");
        DoubtTime x = new DoubtTime();
        x.commit(0, 1);
        x.go(5000);
        x.strike(0, 1);
        x.strike(5, 1);
        x.drift(9);
        x.tell(4, 1, 2);
        due("lay() of an empty TEXT", x.lay(), 0);
        dueCounts("LAID", x, 0, 1000, 0, 0, 0, 0, 0, 0);
        due("undo()", x.undo(), NO);
        due("between", x.between(-1, 0, LAST_ASKED), 0);
        due("safe()", x.safe(), LONG_NONE);
        x.strike(0, 1);
        Check.put(x, "m5,1,1;m0,5,6;");
        due("lay() of two MASTERS, one of them STRUCK before", x.lay(), 2);
        dueCounts("LAID", x, 0, 1000, 2, 0, 0, 0, 0, 14);
        Check.put(x, "m1,1,1;m2,1,1;m3,1,1;m4,1,1;");
        due("lay() of all", x.lay(), 6);
        Check.put(x, "m4,7,7;");
        due("lay() of one told twice", x.lay(), 6);
        x.commit(0, 3);
        due("the first COMMIT gets END again", x.commitOf(0, 2), 1);
        x.lay();
        due("its STAMP is forgotten", x.commit(0, 3), 0);
        due("STAMP", x.commitOf(0, 2), 1);
    }

    private void layRefused() {
        says("LAID: how many MASTERS are HEARD; LOCAL 0, none STRUCK, no COMMITS, nothing can be UNDONE. NO.");
        DoubtTime x = new DoubtTime();
        x.commit(0, 1);
        x.go(50);
        x.strike(0, 1);
        // All but the last ITEM could be LAID.
        Check.put(x, "d7;m0,1,2;s0,1,2,1;m6,1,2;");
        due("lay()", x.lay(), NO);
        dueCounts("as it was", x, 50, 1000, 3, 1, 1, 0, 3, 26);
        dueLeap("as it was", x, 1500, 1, 100, 0);
        dueSpan("as it was", x, 0, 1039, 1061);
        due("undo()", x.undo(), 2);
    }

    // ---- masters

    private void tell() {
        says("A MASTER tells LOW and HIGH now: how many are HEARD. BAD.");
        DoubtTime x = new DoubtTime();
        due("one that told", x.tell(0, 1, 2), 4);
        due("a fifth", x.tell(4, 1, 2), 5);
        due("a sixth", x.tell(5, 0, LAST_TOLD), 6);
        due("the sixth again", x.tell(5, LAST_TOLD, LAST_TOLD), 6);
        x.strike(5, 1);
        due("a STRUCK one", x.tell(5, 3, 3), 5);
        x.go(5000);
        due("now", x.tell(0, 7, 8), 5);
        dueSpan("told at 5000", x, 0, 7, 8);
        due("LOW -1", x.tell(0, -1, 8), BAD);
        due("HIGH too high", x.tell(0, 7, LAST_TOLD + 1), BAD);
        due("LOW above HIGH", x.tell(0, 8, 7), BAD);
        due("no such MASTER", x.tell(6, 7, 8), BAD);
        due("no such MASTER", x.tell(-1, 7, 8), BAD);
        dueSpan("as it was", x, 0, 7, 8);
    }

    private void strike() {
        says("A MASTER is STRUCK (is = 1) or not (0): how many are HEARD. BAD; NO: it is so.");
        DoubtTime x = new DoubtTime();
        for (int m = 0; m <= 5; m++) {
            due("strike(" + m + ", 0): it is so", x.strike(m, 0), NO);
            due("strike(" + m + ", 1)", x.strike(m, 1), Math.max(0, 3 - m));
            due("strike(" + m + ", 1): it is so", x.strike(m, 1), NO);
            due("STRUCK", x.count(3), m + 1);
        }
        for (int m = 0; m <= 5; m++) {
            due("strike(" + m + ", 0)", x.strike(m, 0), Math.min(4, m + 1));
        }
        int[] none = {-1, 2, 3, 256, LEAST, MOST};
        for (int is : none) {
            due("strike(0, " + is + ")", x.strike(0, is), BAD);
            due("strike(6, " + is + ")", x.strike(6, is), BAD);
        }
        due("STRUCK", x.count(3), 0);
    }

    private void strikeLiars() {
        says("All LIARS are STRUCK: how many. NO: there is none.");
        DoubtTime x = Check.laid("m0,0,0;m1,10,10;m2,20,20;m3,30,30;m4,40,40;m5,50,50;");
        due("all but one", x.strikeLiars(), 5);
        dueCounts("behind it", x, 0, 1000, 1, 5, 0, 0, 1, 52);
        due("none is left", x.strikeLiars(), NO);
        due("one change", x.count(6), 1);
        due("undo()", x.undo(), 0);
        due("all LIARS again", x.liars(), 62);
        due("of a new object", new DoubtTime().strikeLiars(), 1);
        due("one alone is none", Check.laid("m3,5,5;").strikeLiars(), NO);
        due("nobody is HEARD", Check.laid("").strikeLiars(), NO);
        DoubtTime y = new DoubtTime();
        y.strike(5, 1);
        due("those STRUCK before do not count", y.strikeLiars(), 1);
        due("and stay STRUCK", y.count(3), 2);
    }

    private void drift() {
        says("DRIFT (0 to 999999): what it was. BAD; NO: it is so.");
        DoubtTime x = new DoubtTime();
        due("drift(1000)", x.drift(1000), NO);
        due("drift(999)", x.drift(999), 1000);
        due("drift(0)", x.drift(0), 999);
        due("drift(0) again", x.drift(0), NO);
        due("drift(-1)", x.drift(-1), BAD);
        due("drift(1)", x.drift(1), 0);
        due("drift(999999)", x.drift(999999), 1);
        due("drift(999999) again", x.drift(999999), NO);
        due("drift(1000000)", x.drift(1000000), BAD);
        due("drift(999998)", x.drift(999998), 999999);
        due("changes", x.count(6), 5);
    }

    private void go() {
        says("LOCAL goes on n TICKS (1 to 5000), TICK by TICK: how many COMMITS become DONE. BAD.");
        DoubtTime x = new DoubtTime();
        int[] none = {0, -1, 5001, 5002, -5000, 65536 + 1, LEAST, MOST};
        for (int n : none) {
            due("go(" + n + ")", x.go(n), BAD);
        }
        due("LOCAL", x.count(0), 0);
        due("go(1)", x.go(1), 0);
        due("go(5000)", x.go(5000), 0);
        due("go(4999)", x.go(4999), 0);
        due("LOCAL", x.count(0), 10000);
        DoubtTime y = Check.laid("d0;m0,0,4998;");
        y.commit(0, 0);
        y.commit(0, 0);
        // The STAMPS are 4998 and 4999; BEGIN is LOCAL.
        due("the last TICK of 5000 does it, and that ahead of it", y.go(5000), 2);
        due("DONE at", y.commitOf(0, 4), 4999);
        due("DONE at", y.commitOf(1, 4), 5000);
        y.undo();
        due("one TICK less", y.go(4999), 1);
        due("one TICK more", y.go(1), 1);
        DoubtTime z = Check.laid("d0;m0,100,110;");
        for (int c = 0; c < 16; c++) {
            z.commit(0, 0);
        }
        due("all 16", z.go(26), 16);
        due("no more", z.go(5000), 0);
    }

    private void undo() {
        says("UNDONE: how many more can be. NO.");
        DoubtTime x = new DoubtTime();
        due("of none", x.undo(), NO);
        x.go(1);
        due("of one", x.undo(), 0);
        due("of no more", x.undo(), NO);
        for (int i = 0; i < 6; i++) {
            x.go(1);
        }
        for (int left = 5; left >= 0; left--) {
            due("of six", x.undo(), left);
        }
        due("of no more", x.undo(), NO);
        for (int i = 0; i < 7; i++) {
            x.go(1);
        }
        for (int left = 5; left >= 0; left--) {
            due("of seven", x.undo(), left);
        }
        due("of the seventh", x.undo(), NO);
        due("LOCAL", x.count(0), 1);
    }

    // ---- what time it is

    private void span() {
        says("SPAN of a MASTER now: where it begins (what = 0), ends (1). BAD answers -2000000000000; "
            + "NO likewise -2000000000001: it has told nothing.");
        DoubtTime x = new DoubtTime();
        int[] none = {-1, 2, 256, LEAST, MOST};
        for (int what : none) {
            due("span(0, " + what + ")", x.span(0, what), -2000000000000L);
            due("span(4, " + what + ")", x.span(4, what), -2000000000000L);
            due("span(6, " + what + ")", x.span(6, what), -2000000000000L);
        }
        due("span(-1, 0)", x.span(-1, 0), -2000000000000L);
        due("span(6, 1)", x.span(6, 1), -2000000000000L);
        due("span(4, 0)", x.span(4, 0), -2000000000001L);
        due("span(5, 1)", x.span(5, 1), -2000000000001L);
        x.strike(4, 1);
        due("STRUCK, and told nothing", x.span(4, 0), -2000000000001L);
        x.strike(3, 1);
        dueSpan("STRUCK", x, 3, 2000, 2010);
        x.go(1);
        dueSpan("STRUCK, now", x, 3, 2000, 2012);
    }

    private void agreed() {
        says("AGREED now: BEGIN (what = 0), END (1). BAD answers -2000000000000; "
            + "NO likewise -2000000000001: nobody is HEARD.");
        DoubtTime x = Check.laid("m3,5,9;");
        int[] none = {-1, 2, 256, LEAST, MOST};
        for (int what : none) {
            due("agreed(" + what + ")", x.agreed(what), -2000000000000L);
        }
        dueAgreed("of one", x, 5, 9, 1);
        x.go(1);
        dueAgreed("now", x, 5, 11, 1);
        x.strike(3, 1);
        due("nobody: agreed(0)", x.agreed(0), -2000000000001L);
        due("nobody: agreed(1)", x.agreed(1), -2000000000001L);
        for (int what : none) {
            due("nobody: agreed(" + what + ")", x.agreed(what), -2000000000000L);
        }
        dueAgreed("not GOOD", Check.laid("m0,1,2;m1,4,5;"), 1, 2, 0);
    }

    private void good() {
        says("1 if AGREED is GOOD, 0 (also if nobody is HEARD).");
        due("GOOD", new DoubtTime().good(), 1);
        due("not GOOD", Check.laid("m0,1,2;m1,4,5;").good(), 0);
        due("nobody told anything", Check.laid("").good(), 0);
        DoubtTime x = Check.laid("m0,1,2;");
        due("of one", x.good(), 1);
        x.strike(0, 1);
        due("all STRUCK", x.good(), 0);
    }

    private void in() {
        says("In how many SPANS of HEARD MASTERS a TICK (0 to 2000000000000) is. BAD.");
        DoubtTime x = Check.laid("d0;m0,0,0;m1,0,1000000000000;m2,3,3;m3,1000000000000,1000000000000;");
        long[] none = {-1, LAST_ASKED + 1, Long.MIN_VALUE, Long.MAX_VALUE};
        for (long tick : none) {
            due("in(" + tick + ")", x.in(tick), BAD);
        }
        long[] ticks = {0, 1, 2, 3, 4, LAST_TOLD - 1, LAST_TOLD, LAST_TOLD + 1, LAST_ASKED - 1, LAST_ASKED};
        int[] want = {2, 1, 1, 2, 1, 1, 2, 0, 0, 0};
        for (int i = 0; i < ticks.length; i++) {
            due("in(" + ticks[i] + ")", x.in(ticks[i]), want[i]);
        }
        x.strike(1, 1);
        due("a STRUCK one does not count", x.in(0), 1);
        due("nobody is HEARD", Check.laid("").in(0), 0);
        due("all six", Check.laid("m0,1,1;m1,1,1;m2,1,1;m3,1,1;m4,1,1;m5,1,1;").in(1), 6);
    }

    private void liars() {
        says("LIARS, as bits.");
        for (int m = 0; m <= 5; m++) {
            DoubtTime x = Check.laid("");
            for (int other = 0; other <= 5; other++) {
                long low = other == m ? 500 : 100;
                x.tell(other, low, low);
            }
            due("MASTER " + m, x.liars(), 1 << m);
        }
        due("none", Check.laid("m0,1,1;").liars(), 0);
        due("nobody is HEARD", Check.laid("").liars(), 0);
        due("all but the first", Check.laid("m0,0,0;m1,2,2;m2,4,4;m3,6,6;m4,8,8;m5,10,10;").liars(), 62);
    }

    // ---- commits

    private void commit() {
        says("A COMMIT of a KEY, a VALUE: its number. BAD; NO: AGREED is not GOOD; FULL.");
        DoubtTime x = Check.laid("d0;m0,100,110;m1,300,300;");
        due("not GOOD", x.commit(0, 0), NO);
        due("BAD and not GOOD", x.commit(6, 0), BAD);
        x.strike(1, 1);
        due("the first", x.commit(0, 0), 0);
        for (int c = 1; c < 16; c++) {
            due("the next", x.commit(5, 999999), c);
        }
        due("FULL", x.commit(5, 999999), FULL);
        due("BAD and FULL", x.commit(5, 1000000), BAD);
        x.strike(1, 0);
        due("not GOOD and FULL", x.commit(5, 999999), NO);
        due("all three", x.commit(-1, 0), BAD);
    }

    private void commitOf() {
        says("Of a COMMIT: KEY (what = 0), VALUE (1), STAMP (2), LOCAL as it was made (3), as it was DONE "
            + "(4; NONE: it is OPEN). BAD.");
        DoubtTime x = Check.laid("d0;m0,100,110;");
        int[] none = {-1, 5, 256, LEAST, MOST};
        for (int what = 0; what <= 4; what++) {
            due("there is none", x.commitOf(0, what), BAD);
        }
        x.commit(0, 0);
        x.go(7);
        x.commit(5, 999999);
        for (int what : none) {
            due("commitOf(0, " + what + ")", x.commitOf(0, what), BAD);
            due("commitOf(1, " + what + ")", x.commitOf(1, what), BAD);
        }
        long[] first = {0, 0, 110, 0, NONE};
        long[] second = {5, 999999, 117, 7, NONE};
        for (int what = 0; what <= 4; what++) {
            due("commitOf(0, " + what + ")", x.commitOf(0, what), first[what]);
            due("commitOf(1, " + what + ")", x.commitOf(1, what), second[what]);
            due("commitOf(2, " + what + ")", x.commitOf(2, what), BAD);
            due("commitOf(-1, " + what + ")", x.commitOf(-1, what), BAD);
        }
        x.go(4);
        due("DONE at", x.commitOf(0, 4), 11);
        due("OPEN", x.commitOf(1, 4), NONE);
        x.go(100);
        due("DONE at", x.commitOf(1, 4), 18);
        due("made at", x.commitOf(1, 3), 7);
    }

    private void waiting() {
        says("WAIT of a COMMIT. BAD; NO: it is DONE; NONE: longer than 2000.");
        DoubtTime x = Check.laid("d0;m0,0,1999;");
        due("there is none", x.waiting(0), BAD);
        x.commit(0, 0);
        x.commit(0, 0);
        due("waiting(-1)", x.waiting(-1), BAD);
        due("waiting(2)", x.waiting(2), BAD);
        due("2000", x.waiting(0), 2000);
        due("2001", x.waiting(1), NONE);
        x.go(1999);
        due("1", x.waiting(0), 1);
        x.go(1);
        due("DONE", x.waiting(0), NO);
        due("the other", x.waiting(1), 1);
        due("LOCAL stays", x.count(0), 2000);
        due("nothing is a change of it", x.count(6), 4);
    }

    private void safe() {
        says("SAFE. NONE answers -2000000000000: no TICK is.");
        due("not GOOD", Check.laid("m0,1,2;m1,4,5;").safe(), -2000000000000L);
        due("nobody is HEARD", Check.laid("").safe(), -2000000000000L);
        due("GOOD", Check.laid("m0,1,2;").safe(), 0);
        due("GOOD, as early as can be", Check.laid("m0,0,2;").safe(), -1);
        due("as late as can be", Check.laid("m0,1000000000000,1000000000000;").safe(), LAST_TOLD - 1);
    }

    private void read() {
        says("READ of a KEY at a TICK (0 to 2000000000000). BAD; NO: it is above SAFE (or SAFE is none); NONE.");
        DoubtTime x = Check.laid("d0;m0,100,110;");
        x.commit(0, 8);
        x.commit(5, 9);
        x.go(50);
        int[] keys = {-1, 6, -2, 32, LEAST, MOST};
        for (int key : keys) {
            due("read(" + key + ", 120)", x.read(key, 120), BAD);
            due("read(" + key + ", 2 10^12)", x.read(key, LAST_ASKED), BAD);
        }
        long[] ticks = {-1, LAST_ASKED + 1, Long.MIN_VALUE, Long.MAX_VALUE};
        for (long tick : ticks) {
            due("read(0, " + tick + ")", x.read(0, tick), BAD);
        }
        due("read(0, 0)", x.read(0, 0), NONE);
        due("read(0, 109)", x.read(0, 109), NONE);
        due("read(0, 110)", x.read(0, 110), 8);
        due("read(5, 110)", x.read(5, 110), NONE);
        due("read(5, 111)", x.read(5, 111), 9);
        due("SAFE", x.safe(), 149);
        due("read(0, 149)", x.read(0, 149), 8);
        due("read(0, 150)", x.read(0, 150), NO);
        due("read(0, 2 10^12)", x.read(0, LAST_ASKED), NO);
        due("SAFE is none", Check.laid("m0,1,2;m1,4,5;").read(0, 0), NO);
        due("SAFE is none", Check.laid("").read(0, LAST_ASKED), NO);
        due("SAFE is below 0", Check.laid("m0,0,2;").read(0, 0), NO);
        due("SAFE is 0", Check.laid("m0,1,2;").read(0, 0), NONE);
        due("SAFE is 0", Check.laid("m0,1,2;").read(0, 1), NO);
    }

    private static final String BETWEEN = "How many COMMITS have STAMPS from one TICK to another one "
        + "(0 to 2000000000000 each; of a KEY, -1: of all). BAD (from above to, too).";

    private void between() {
        says(BETWEEN);
        DoubtTime x = Check.laid("d0;m0,0,0;");
        due("no COMMITS", x.between(-1, 0, LAST_ASKED), 0);
        x.commit(0, 0);
        x.commit(5, 0);
        x.commit(5, 0);
        int[] none = {-2, 6, 7, LEAST, MOST};
        for (int key : none) {
            due("between(" + key + ", 0, 5)", x.between(key, 0, 5), BAD);
        }
        due("of all", x.between(-1, 0, 5), 3);
        due("of KEY 0", x.between(0, 0, 5), 1);
        due("of KEY 1", x.between(1, 0, 5), 0);
        due("of KEY 5", x.between(5, 0, 5), 2);
        x.go(3);
        due("DONE or OPEN", x.between(-1, 0, 5), 3);
        DoubtTime y = Check.laid("d0;m0,0,0;");
        for (int c = 0; c < 16; c++) {
            y.commit(2, 0);
        }
        due("all 16", y.between(-1, 0, 15), 16);
        due("all 16 of a KEY", y.between(2, 0, 15), 16);
        due("all but the last", y.between(-1, 0, 14), 15);
        due("all but the first", y.between(-1, 1, 15), 15);
    }

    private void betweenTicks() {
        says(BETWEEN);
        DoubtTime x = Check.laid("d0;m0,100,110;");
        x.commit(0, 0);
        x.commit(1, 0);
        long last = LAST_ASKED;
        long[][] none = {{-1, 0}, {-1, -1}, {0, -1}, {0, last + 1}, {last, last + 1}, {last + 1, last + 1}, {1, 0},
            {last, last - 1}, {111, 110}, {Long.MIN_VALUE, Long.MAX_VALUE}, {0, Long.MAX_VALUE}, {Long.MIN_VALUE, 0}};
        for (long[] n : none) {
            due("between(-1, " + n[0] + ", " + n[1] + ")", x.between(-1, n[0], n[1]), BAD);
            due("between(0, " + n[0] + ", " + n[1] + ")", x.between(0, n[0], n[1]), BAD);
        }
        long[][] taken = {{0, 0, 0}, {0, 109, 0}, {0, 110, 1}, {0, 111, 2}, {109, 110, 1}, {110, 110, 1}, {110, 111, 2},
            {111, 111, 1}, {111, last, 1}, {112, 112, 0}, {112, last, 0}, {0, last, 2}, {last, last, 0}};
        for (long[] t : taken) {
            due("between(-1, " + t[0] + ", " + t[1] + ")", x.between(-1, t[0], t[1]), t[2]);
        }
    }

    // ---- the leap

    private void leap() {
        says("THE LEAP: T (what = 0), A (1), W (2), KIND (3). BAD.");
        DoubtTime x = Check.laid("s1000000000000,1000,1000000000,1;");
        dueLeap("the most", x, LAST_TOLD, 1000, 1000000000, 1);
        dueLeap("the least", Check.laid("s0,1,2,0;"), 0, 1, 2, 0);
        int[] none = {-1, 4, 256, LEAST, MOST};
        for (int what : none) {
            due("leap(" + what + ")", x.leap(what), BAD);
        }
    }

    private void smeared() {
        says("SMEARED (a TICK 0 to 2000000000000). BAD answers -2000000000000.");
        DoubtTime x = Check.laid("s0,1000,1001,0;");
        due("smeared(0)", x.smeared(0), 0);
        due("smeared(2 10^12)", x.smeared(LAST_ASKED), LAST_ASKED + 1000);
        DoubtTime y = Check.laid("s0,1000,1001,1;");
        due("smeared(2 10^12)", y.smeared(LAST_ASKED), LAST_ASKED - 1000);
        long[] none = {-1, LAST_ASKED + 1, Long.MIN_VALUE, Long.MAX_VALUE};
        for (long tick : none) {
            due("smeared(" + tick + ")", x.smeared(tick), -2000000000000L);
            due("smeared(" + tick + ")", y.smeared(tick), -2000000000000L);
        }
    }

    private void back() {
        says("BACK (of a TICK 0 to 2000000000000). BAD.");
        DoubtTime x = Check.laid("s0,1000,1001,0;");
        due("back(0)", x.back(0), 0);
        due("back(2 10^12)", x.back(LAST_ASKED), LAST_ASKED - 1000);
        DoubtTime y = Check.laid("s0,1000,1001,1;");
        due("back(0)", y.back(0), 0);
        due("back(2 10^12)", y.back(LAST_ASKED), LAST_ASKED + 1000);
        long[] none = {-1, LAST_ASKED + 1, LAST_ASKED + 1000, Long.MIN_VALUE, Long.MAX_VALUE};
        for (long tick : none) {
            due("back(" + tick + ")", x.back(tick), -1);
            due("back(" + tick + ")", y.back(tick), -1);
        }
    }

    private void count() {
        says("How many: 0 LOCAL, 1 DRIFT, 2 HEARD, 3 STRUCK, 4 COMMITS, 5 OPEN, 6 changes that can be UNDONE, "
            + "7 letters of THE TEXT. BAD.");
        DoubtTime x = Check.laid("d0;m0,100,110;m1,100,110;m2,100,110;");
        int[] none = {-1, 8, 256, LEAST, MOST};
        for (int what : none) {
            due("count(" + what + ")", x.count(what), BAD);
        }
        dueCounts("the least", Check.laid("d0;"), 0, 0, 0, 0, 0, 0, 0, 3);
        x.commit(0, 0);
        x.go(11);
        for (int c = 1; c < 16; c++) {
            x.commit(0, 0);
        }
        x.strike(0, 1);
        x.strike(5, 1);
        x.drift(999999);
        Check.put(x, "d".repeat(200));
        dueCounts("the most", x, 11, 999999, 2, 2, 16, 15, 6, 200);
    }

    private void calls512() {
        says("An object is used for at most 512 calls after it has been made; what later calls answer is free.");
        DoubtTime x = new DoubtTime();
        x.drift(999999);
        for (int call = 2; call <= 508; call++) {
            due("go(5000)", x.go(5000), 0);
        }
        // 507 times 5000 are gone; DRIFT takes off 2.535, rounded up.
        due("the 509th call", x.count(0), 2535000);
        due("the 510th call", x.span(3, 0), 2000 + 2);
        due("the 511th call", x.span(3, 1), 2010 + 2535000 + 2534998);
        due("the 512th call", x.undo(), 5);
    }
}
