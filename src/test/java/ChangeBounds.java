import java.util.ArrayList;
import java.util.List;
import java.util.Random;

/** Paragraph 4, what changes and what is UNDONE. */
final class ChangeBounds extends Bounds {
    private static final String CHANGE = "A change: what a MASTER tells, one STRUCK or not, LIARS STRUCK, DRIFT told anew, "
        + "a COMMIT, LOCAL going on.";
    private static final String UNDONE = "UNDONE is the latest change (the last 6 can be; behind LAID none can be).";

    ChangeBounds(Check check, Document document) {
        super(check, document);
    }

    @Override
    void run() {
        eachIsOneChange();
        eachIsUndoneWhole();
        noChanges();
        lastSix();
        theRingGoesRound();
        behindLaid();
        behindALayThatIsRefused();
    }

    /** COMMITS DONE and OPEN, one STRUCK, a LIAR, and six changes already. */
    private static DoubtTime busy() {
        DoubtTime x = Check.laid("d0;m0,100,110;m1,101,120;m2,900,901;m4,990,999;");
        x.strike(4, 1);
        x.commit(0, 5);
        x.go(10);
        x.commit(1, 6);
        x.commit(0, 7);
        x.drift(1);
        x.tell(3, 115, 130);
        return x;
    }

    private static final String[] NAMES = {"tell", "tell the same", "tell of a STRUCK one", "the first tell of one",
        "strike", "strike not", "strike of one that told nothing", "strikeLiars", "drift", "commit", "go(1)",
        "go(5000)"};
    private static final Twins.Call[] CHANGES = {x -> x.tell(0, 7, 8), x -> x.tell(3, 115, 130), x -> x.tell(4, 7, 8),
        x -> x.tell(5, 1, 1), x -> x.strike(0, 1), x -> x.strike(4, 0), x -> x.strike(5, 1), x -> x.strikeLiars(),
        x -> x.drift(999999), x -> x.commit(5, 999999), x -> x.go(1), x -> x.go(5000)};

    private void eachIsOneChange() {
        says(CHANGE);
        dueCounts("busy", busy(), 10, 1, 4, 1, 3, 2, 6, 47);
        dueCounts("less busy", lessBusy(), 10, 0, 4, 1, 3, 2, 5, 47);
        due("less busy: a LIAR", lessBusy().liars(), 4);
        for (int i = 0; i < CHANGES.length; i++) {
            DoubtTime x = lessBusy();
            due("count(6) ahead of " + NAMES[i], x.count(6), 5);
            isTrue(NAMES[i] + " is taken", CHANGES[i].on(x) >= 0);
            due("count(6) behind " + NAMES[i], x.count(6), 6);
            due("undo() of " + NAMES[i], x.undo(), 5);
        }
    }

    private void eachIsUndoneWhole() {
        says(UNDONE);
        for (int i = 0; i < CHANGES.length; i++) {
            Twins.Call change = CHANGES[i];
            isTrue(NAMES[i] + " is taken", change.on(lessBusy()) >= 0);
            String difference = Twins.difference(ChangeBounds::lessBusy, x -> {
                change.on(x);
                return x.undo();
            });
            isTrue(NAMES[i] + " is UNDONE, but " + difference, difference == null);
        }
    }

    /** As busy, but with room for one change more: what is UNDONE is then as if it had never been. */
    private static DoubtTime lessBusy() {
        DoubtTime x = busy();
        x.undo();
        x.undo();
        x.tell(3, 115, 130);
        return x;
    }

    private void noChanges() {
        says(CHANGE);
        Twins.Call[] none = {x -> x.fault(), x -> x.span(0, 0), x -> x.agreed(1), x -> x.good(), x -> x.in(100),
            x -> x.liars(), x -> x.commitOf(0, 4), x -> x.waiting(1), x -> x.safe(), x -> x.read(0, 110),
            x -> x.between(-1, 0, 500), x -> x.leap(0), x -> x.smeared(1050), x -> x.back(1050), x -> x.count(6)};
        for (int i = 0; i < none.length; i++) {
            String difference = Twins.difference(ChangeBounds::busy, none[i]);
            isTrue("question " + i + " changes nothing, but " + difference, difference == null);
        }
        DoubtTime x = busy();
        x.write('d');
        due("write is none", x.count(6), 6);
        x.wipe();
        due("wipe is none", x.count(6), 6);
        x.undo();
        due("undo is none", x.count(6), 5);
        due("wipe stays", x.count(7), 0);
        DoubtTime y = new DoubtTime();
        Check.put(y, "d5;");
        y.drift(9);
        y.write('d');
        y.undo();
        due("letters stay", y.count(7), 4);
        due("letters stay", y.fault(), 3);
    }

    private void lastSix() {
        says(UNDONE);
        DoubtTime x = new DoubtTime();
        due("undo() of none", x.undo(), NO);
        for (int n = 1; n <= 20; n++) {
            x.go(n);
            due("count(6) behind " + n, x.count(6), Math.min(n, 6));
        }
        due("LOCAL", x.count(0), 210);
        int[] locals = {190, 171, 153, 136, 120, 105};
        for (int i = 0; i < 6; i++) {
            due("undo()", x.undo(), 5 - i);
            due("LOCAL", x.count(0), locals[i]);
        }
        due("undo() of a seventh", x.undo(), NO);
        due("LOCAL", x.count(0), 105);
        due("count(6)", x.count(6), 0);
        x.go(3);
        due("count(6) behind another change", x.count(6), 1);
        due("undo()", x.undo(), 0);
        due("LOCAL", x.count(0), 105);
    }

    /** Changes and what is UNDONE in turns, however often: a list that drops its oldest says what is due. */
    private void theRingGoesRound() {
        says(UNDONE);
        for (int seed = 0; seed < 20; seed++) {
            Random random = new Random(seed);
            DoubtTime x = new DoubtTime();
            List<Integer> before = new ArrayList<>();
            int drift = 1000;
            for (int i = 1; i <= 200; i++) {
                if (random.nextInt(5) < 2) {
                    int want = before.isEmpty() ? NO : before.size() - 1;
                    due("undo()", x.undo(), want);
                    drift = want == NO ? drift : before.remove(before.size() - 1);
                } else {
                    due("drift", x.drift(2000 + i), drift);
                    before.add(drift);
                    drift = 2000 + i;
                }
                while (before.size() > 6) {
                    before.remove(0);
                }
                due("DRIFT", x.count(1), drift);
            }
            due("count(6)", x.count(6), before.size());
        }
    }

    private void behindLaid() {
        says(UNDONE);
        due("a new object", new DoubtTime().undo(), NO);
        DoubtTime x = busy();
        due("changes", x.count(6), 6);
        due("lay()", x.lay(), 4);
        due("changes behind lay()", x.count(6), 0);
        due("undo() behind lay()", x.undo(), NO);
        x.drift(7);
        due("undo() of what came behind it", x.undo(), 0);
        due("DRIFT as LAID", x.count(1), 0);
        due("undo() of no more", x.undo(), NO);
        x.lay();
        for (int d = 1; d <= 7; d++) {
            x.drift(d);
        }
        due("six behind it", x.count(6), 6);
    }

    private void behindALayThatIsRefused() {
        says(UNDONE);
        DoubtTime x = busy();
        x.write('d');
        due("lay()", x.lay(), NO);
        due("changes", x.count(6), 6);
        due("undo()", x.undo(), 5);
        due("the tell is UNDONE", x.span(3, 0), LONG_NO);
    }
}
