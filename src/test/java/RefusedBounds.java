/** Paragraph 4, what is refused: BAD, NO, NONE and FULL, their order, and that nothing changes then. */
final class RefusedBounds extends Bounds {
    private static final String BAD_SAYS = "BAD: a number is none that is told (COMMITS such as there are).";
    private static final String NOTHING_CHANGES =
        "Of several the first in this order, whatever the order at a call; nothing changes then.";
    private static final int LEAST = Integer.MIN_VALUE;
    private static final int MOST = Integer.MAX_VALUE;
    private static final long PAST_TOLD = LAST_TOLD + 1;
    private static final long PAST_ASKED = LAST_ASKED + 1;

    RefusedBounds(Check check, Document document) {
        super(check, document);
    }

    @Override
    void run() {
        objectsAsSaid();
        badChangesNothing();
        badAnswersOfLongs();
        commitsSuchAsThereAre();
        noNotAsThingsStand();
        noneThereIsNone();
        badAheadOfAll();
        noAheadOfNone();
        noAheadOfFull();
        textStaysWhenLaid();
    }

    // ---- objects in which things are refused

    private static DoubtTime fresh() {
        return new DoubtTime();
    }

    /** COMMITS DONE and OPEN, one MASTER STRUCK, six changes, a TEXT with a FAULT. */
    private static DoubtTime busy() {
        DoubtTime x = Check.laid("d0;m0,100,110;m1,101,120;m2,900,901;");
        x.commit(0, 5);
        x.go(10);
        x.commit(1, 6);
        x.commit(0, 7);
        x.strike(2, 1);
        x.drift(1);
        x.tell(3, 115, 130);
        x.write('d');
        return x;
    }

    /** 16 COMMITS, 200 letters. */
    private static DoubtTime full() {
        DoubtTime x = Check.laid("d0;m0,100,110;m1,105,110;");
        for (int c = 0; c < 16; c++) {
            x.commit(c % 6, c);
        }
        Check.put(x, "9".repeat(200 - x.count(7)));
        return x;
    }

    /** As full, with AGREED not GOOD. */
    private static DoubtTime split() {
        DoubtTime x = full();
        x.tell(0, 5, 6);
        return x;
    }

    private static DoubtTime nobody() {
        return Check.laid("d7;s5,6,7,1;");
    }

    /** An OPEN COMMIT, all STRUCK by changes. */
    private static DoubtTime hushed() {
        DoubtTime x = new DoubtTime();
        x.commit(0, 1);
        for (int m = 0; m <= 3; m++) {
            x.strike(m, 1);
        }
        return x;
    }

    /** All COMMITS DONE, AGREED told far back. */
    private static DoubtTime toldBack() {
        DoubtTime x = Check.laid("d0;m0,5000,5010;");
        x.commit(0, 1);
        x.go(50);
        x.tell(0, 0, 0);
        return x;
    }

    /** Nothing can be UNDONE any more. */
    private static DoubtTime undone() {
        DoubtTime x = new DoubtTime();
        for (int d = 1; d <= 7; d++) {
            x.drift(d);
        }
        for (int i = 0; i < 6; i++) {
            x.undo();
        }
        return x;
    }

    private static final Twins.Maker[] ALL = {RefusedBounds::fresh, RefusedBounds::busy, RefusedBounds::full,
        RefusedBounds::split, RefusedBounds::nobody, RefusedBounds::hushed, RefusedBounds::toldBack,
        RefusedBounds::undone};

    // ---- what is looked at

    private void objectsAsSaid() {
        says(NOTHING_CHANGES);
        dueCounts("busy", busy(), 10, 1, 3, 1, 3, 2, 6, 37);
        due("busy", busy().fault(), 36);
        dueCounts("full", full(), 0, 0, 2, 0, 16, 16, 6, 200);
        due("full", full().good(), 1);
        dueCounts("split", split(), 0, 0, 2, 0, 16, 16, 6, 200);
        due("split", split().good(), 0);
        dueCounts("nobody", nobody(), 0, 7, 0, 0, 0, 0, 0, 12);
        dueCounts("hushed", hushed(), 0, 1000, 0, 4, 1, 1, 5, 0);
        dueCounts("toldBack", toldBack(), 50, 0, 1, 0, 1, 0, 3, 16);
        dueCounts("undone", undone(), 0, 1, 4, 0, 0, 0, 0, 0);
    }

    /** It answers as due, and nothing changes then. */
    private void refused(String call, Twins.Maker maker, Twins.Call refusedCall, long want) {
        due(call, refusedCall.on(maker.make()), want);
        String difference = Twins.difference(maker, refusedCall);
        isTrue(call + " changes nothing, but " + difference, difference == null);
    }

    private void badEverywhere(String call, Twins.Call... calls) {
        for (int state = 0; state < ALL.length; state++) {
            for (int i = 0; i < calls.length; i++) {
                refused(call + " " + i + " of object " + state, ALL[state], calls[i], BAD);
            }
        }
    }

    private void badChangesNothing() {
        says(BAD_SAYS);
        badEverywhere("write", x -> x.write(31), x -> x.write(127), x -> x.write(LEAST), x -> x.write(MOST));
        badEverywhere("tell", x -> x.tell(-1, 0, 1), x -> x.tell(6, 0, 1), x -> x.tell(0, -1, 1),
            x -> x.tell(0, 0, PAST_TOLD), x -> x.tell(0, 2, 1), x -> x.tell(0, PAST_TOLD, PAST_TOLD));
        badEverywhere("strike", x -> x.strike(-1, 1), x -> x.strike(6, 1), x -> x.strike(0, -1), x -> x.strike(0, 2),
            x -> x.strike(32, 1), x -> x.strike(LEAST, 0), x -> x.strike(0, 256));
        badEverywhere("drift", x -> x.drift(-1), x -> x.drift(1000000), x -> x.drift(LEAST), x -> x.drift(MOST));
        badEverywhere("go", x -> x.go(0), x -> x.go(-1), x -> x.go(5001), x -> x.go(LEAST), x -> x.go(MOST));
        badEverywhere("in", x -> x.in(-1), x -> x.in(PAST_ASKED), x -> x.in(Long.MIN_VALUE), x -> x.in(Long.MAX_VALUE));
        badEverywhere("commit", x -> x.commit(-1, 0), x -> x.commit(6, 0), x -> x.commit(0, -1),
            x -> x.commit(0, 1000000));
        badEverywhere("commitOf", x -> x.commitOf(-1, 0), x -> x.commitOf(x.count(4), 0), x -> x.commitOf(0, -1),
            x -> x.commitOf(0, 5), x -> x.commitOf(16, 4), x -> x.commitOf(MOST, 0), x -> x.commitOf(LEAST, 4));
        badEverywhere("waiting", x -> x.waiting(-1), x -> x.waiting(x.count(4)), x -> x.waiting(16),
            x -> x.waiting(MOST), x -> x.waiting(LEAST));
        badEverywhere("read", x -> x.read(-1, 0), x -> x.read(6, 0), x -> x.read(0, -1), x -> x.read(0, PAST_ASKED));
        badEverywhere("between", x -> x.between(-2, 0, 1), x -> x.between(6, 0, 1), x -> x.between(0, -1, 1),
            x -> x.between(0, 0, PAST_ASKED), x -> x.between(-1, 2, 1), x -> x.between(-1, -1, -1),
            x -> x.between(-1, PAST_ASKED, PAST_ASKED));
        badEverywhere("leap", x -> x.leap(-1), x -> x.leap(4));
        badEverywhere("back", x -> x.back(-1), x -> x.back(PAST_ASKED), x -> x.back(Long.MIN_VALUE));
        badEverywhere("count", x -> x.count(-1), x -> x.count(8));
    }

    /** Where BAD could be a TICK it is another number. */
    private void badAnswersOfLongs() {
        says(BAD_SAYS);
        Twins.Call[] calls = {x -> x.span(-1, 0), x -> x.span(6, 1), x -> x.span(0, -1), x -> x.span(0, 2),
            x -> x.agreed(-1), x -> x.agreed(2), x -> x.smeared(-1), x -> x.smeared(PAST_ASKED)};
        for (int state = 0; state < ALL.length; state++) {
            for (int i = 0; i < calls.length; i++) {
                refused("call " + i + " of object " + state, ALL[state], calls[i], LONG_BAD);
            }
        }
    }

    private void commitsSuchAsThereAre() {
        says(BAD_SAYS);
        DoubtTime x = Check.laid("d0;m0,100,110;");
        for (int c = 0; c < 16; c++) {
            due("commitOf ahead of commit " + c, x.commitOf(c, 0), BAD);
            due("waiting ahead of commit " + c, x.waiting(c), BAD);
            x.commit(0, 0);
            due("commitOf behind commit " + c, x.commitOf(c, 2), 110 + c);
            due("waiting behind commit " + c, x.waiting(c), 11 + c);
        }
        due("commitOf(16, 0)", x.commitOf(16, 0), BAD);
        due("waiting(16)", x.waiting(16), BAD);
        x.undo();
        due("one that is UNDONE", x.commitOf(15, 0), BAD);
        due("one that is UNDONE", x.waiting(15), BAD);
        due("the one ahead of it", x.commitOf(14, 0), 0);
        x.lay();
        due("none behind lay()", x.commitOf(0, 0), BAD);
        due("none behind lay()", x.waiting(0), BAD);
    }

    private void noNotAsThingsStand() {
        says("NO: not as things stand.");
        refused("lay() with a FAULT", RefusedBounds::busy, x -> x.lay(), NO);
        refused("lay() with a FAULT behind 200 letters", RefusedBounds::full, x -> x.lay(), NO);
        refused("strike: it is STRUCK", RefusedBounds::busy, x -> x.strike(2, 1), NO);
        refused("strike: it is not STRUCK", RefusedBounds::busy, x -> x.strike(0, 0), NO);
        refused("strike: it is not STRUCK and told nothing", RefusedBounds::busy, x -> x.strike(5, 0), NO);
        refused("strikeLiars: there is none", RefusedBounds::busy, x -> x.strikeLiars(), NO);
        refused("strikeLiars: nobody is HEARD", RefusedBounds::nobody, x -> x.strikeLiars(), NO);
        refused("strikeLiars: nobody is HEARD", RefusedBounds::hushed, x -> x.strikeLiars(), NO);
        refused("drift: it is so", RefusedBounds::busy, x -> x.drift(1), NO);
        refused("drift: it is so", RefusedBounds::fresh, x -> x.drift(1000), NO);
        refused("undo of a new object", RefusedBounds::fresh, x -> x.undo(), NO);
        refused("undo behind lay()", RefusedBounds::nobody, x -> x.undo(), NO);
        refused("undo of a seventh", RefusedBounds::undone, x -> x.undo(), NO);
        refused("span: it has told nothing", RefusedBounds::busy, x -> x.span(5, 0), LONG_NO);
        refused("agreed: nobody is HEARD", RefusedBounds::hushed, x -> x.agreed(0), LONG_NO);
        refused("agreed: nobody is HEARD", RefusedBounds::nobody, x -> x.agreed(1), LONG_NO);
        refused("commit: nobody is HEARD", RefusedBounds::hushed, x -> x.commit(0, 0), NO);
        refused("waiting: it is DONE", RefusedBounds::busy, x -> x.waiting(0), NO);
        refused("read: above SAFE", RefusedBounds::busy, x -> x.read(0, x.safe() + 1), NO);
        refused("read: SAFE is none", RefusedBounds::nobody, x -> x.read(0, 0), NO);
    }

    private void noneThereIsNone() {
        says("NONE: there is none. FULL.");
        refused("fault of an empty TEXT", RefusedBounds::fresh, x -> x.fault(), NONE);
        refused("fault", RefusedBounds::nobody, x -> x.fault(), NONE);
        refused("commitOf: it is OPEN", RefusedBounds::busy, x -> x.commitOf(1, 4), NONE);
        refused("waiting: longer than 2000", RefusedBounds::hushed, x -> x.waiting(0), NONE);
        refused("safe: no TICK is", RefusedBounds::nobody, x -> x.safe(), LONG_NONE);
        refused("read: none", RefusedBounds::busy, x -> x.read(5, 110), NONE);
        refused("read: none", RefusedBounds::fresh, x -> x.read(0, 0), NONE);
        refused("write: FULL", RefusedBounds::full, x -> x.write('d'), FULL);
        refused("commit: FULL", RefusedBounds::full, x -> x.commit(0, 0), FULL);
    }

    private void badAheadOfAll() {
        says(NOTHING_CHANGES);
        due("ahead of FULL: write", full().write(127), BAD);
        due("ahead of NO: strike", busy().strike(6, 0), BAD);
        due("ahead of NO: strike of a STRUCK one", busy().strike(2, 2), BAD);
        due("ahead of NO: span", busy().span(5, 2), LONG_BAD);
        due("ahead of NO: span", busy().span(5, -1), LONG_BAD);
        due("ahead of NO: agreed", hushed().agreed(2), LONG_BAD);
        due("ahead of NO: commit", hushed().commit(6, 0), BAD);
        due("ahead of NO: commit", hushed().commit(0, 1000000), BAD);
        due("ahead of FULL: commit", full().commit(6, 0), BAD);
        due("ahead of FULL: commit", full().commit(0, -1), BAD);
        due("ahead of NO and FULL: commit", split().commit(0, 1000000), BAD);
        due("ahead of NONE: commitOf", busy().commitOf(3, 4), BAD);
        due("ahead of NO: read", busy().read(6, LAST_ASKED), BAD);
        due("ahead of NO: read", busy().read(0, PAST_ASKED), BAD);
        due("ahead of NO: read", nobody().read(-1, 0), BAD);
        due("ahead of NONE: read", busy().read(6, 0), BAD);
        due("ahead of NONE: waiting", hushed().waiting(1), BAD);
    }

    private void noAheadOfNone() {
        says(NOTHING_CHANGES);
        DoubtTime x = toldBack();
        due("DONE, and BEGIN not above its STAMP for longer than 2000", x.waiting(0), NO);
        x.strike(0, 1);
        due("DONE, and nobody is HEARD", x.waiting(0), NO);
        due("above SAFE, and none of that KEY", busy().read(5, LAST_ASKED), NO);
        due("SAFE is none, and no COMMITS", nobody().read(0, 5), NO);
        due("no more than SAFE, and none of that KEY", busy().read(5, 0), NONE);
    }

    private void noAheadOfFull() {
        says(NOTHING_CHANGES);
        refused("commit: not GOOD, and 16", RefusedBounds::split, x -> x.commit(0, 0), NO);
        DoubtTime x = split();
        x.undo();
        due("GOOD, and 16", x.commit(0, 0), FULL);
        x.undo();
        due("GOOD, and 15", x.commit(0, 0), 15);
    }

    private void textStaysWhenLaid() {
        says("THE TEXT stays when it is LAID.");
        DoubtTime x = Check.laid("d7;m0,1,2;");
        due("letters", x.count(7), 10);
        due("fault()", x.fault(), NONE);
        x.drift(9);
        x.go(5);
        due("lay() again", x.lay(), 1);
        dueCounts("LAID again", x, 0, 7, 1, 0, 0, 0, 0, 10);
        Check.put(x, "m3,4,5;");
        due("lay() of more", x.lay(), 2);
        due("letters", x.count(7), 17);
        due("wipe()", x.wipe(), 17);
        due("what was LAID stays when THE TEXT is wiped", x.count(2), 2);
        dueSpan("wiped", x, 3, 4, 5);
        DoubtTime y = Check.laid("d7;m0,1,2");
        due("letters of one that is refused", y.count(7), 9);
        due("its FAULT", y.fault(), 3);
    }
}
