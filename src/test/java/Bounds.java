/** What the parts of BoundsTest share: the sentence that is looked at, and numbers that are told. */
abstract class Bounds {
    static final int BAD = DoubtTime.BAD;
    static final int NO = DoubtTime.NO;
    static final int FULL = DoubtTime.FULL;
    static final int NONE = DoubtTime.NONE;
    /** The last TICK that a MASTER can tell, and the last that can be asked for. */
    static final long LAST_TOLD = 1000000000000L;
    static final long LAST_ASKED = 2000000000000L;
    static final long LONG_BAD = Check.LONG_BAD;
    static final long LONG_NO = Check.LONG_NO;
    static final long LONG_NONE = Check.LONG_NONE;

    private final Check check;
    private final Document document;
    private String said = "";

    Bounds(Check check, Document document) {
        this.check = check;
        this.document = document;
    }

    abstract void run();

    /** What comes behind it looks at this sentence of the document. */
    final void says(String sentence) {
        said = sentence;
        check.isTrue("the document says: " + sentence, document.take(sentence));
    }

    final void due(String call, long got, long want) {
        check.due("\"" + said + "\"", call, got, want);
    }

    final void isTrue(String what, boolean holds) {
        check.isTrue("\"" + said + "\": " + what, holds);
    }

    /** A MASTER's SPAN now. */
    final void dueSpan(String when, DoubtTime x, int m, long begin, long end) {
        due(when + ": span(" + m + ", 0)", x.span(m, 0), begin);
        due(when + ": span(" + m + ", 1)", x.span(m, 1), end);
    }

    /** AGREED now. */
    final void dueAgreed(String when, DoubtTime x, long begin, long end, int good) {
        due(when + ": agreed(0)", x.agreed(0), begin);
        due(when + ": agreed(1)", x.agreed(1), end);
        due(when + ": good()", x.good(), good);
    }

    /** count(0), count(1), .. now. */
    final void dueCounts(String when, DoubtTime x, long... counts) {
        for (int what = 0; what < counts.length; what++) {
            due(when + ": count(" + what + ")", x.count(what), counts[what]);
        }
    }

    final void dueLeap(String when, DoubtTime x, long... leap) {
        for (int what = 0; what < leap.length; what++) {
            due(when + ": leap(" + what + ")", x.leap(what), leap[what]);
        }
    }

    final void dueFault(String text, int place) {
        DoubtTime x = new DoubtTime();
        Check.put(x, text);
        due("fault() of " + text, x.fault(), place);
        due("lay() of " + text + " is refused", x.lay() == NO ? 1 : 0, place == NONE ? 0 : 1);
    }
}
