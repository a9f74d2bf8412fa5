/**
 * Time with told doubt: masters tell spans in which the time is, commits are stamped by the end of
 * the span in which most of them agree, and a leap is smeared over a window.
 * The words in the comments are those of the document (DOC.md).
 */
public final class DoubtTime {
    public static final int BAD = -1, NO = -2, FULL = -3, NONE = -4;

    // Answers of the calls for which -1, -2 and -4 could be ticks.
    private static final long LONG_BAD = -2000000000000L;
    private static final long LONG_NO = -2000000000001L;
    private static final long LONG_NONE = -2000000000000L;

    private static final long LAST_TOLD = 1000000000000L;
    private static final long LAST_ASKED = 2000000000000L;
    private static final long MILLION = 1000000L;
    private static final int MASTERS = 6;
    private static final int KEYS = 6;
    private static final int ALL_KEYS = -1;
    private static final int COMMITS = 16;
    private static final int CHANGES = 6;
    private static final int LETTERS = 200;
    private static final int FIGURES = 19;
    private static final long LAST_NUMBER = 9223372036854775807L;
    private static final int MOST_NUMBERS = 4;
    private static final int LAST_DRIFT = 999999;
    private static final int LAST_VALUE = 999999;
    private static final int LONGEST_GO = 5000;
    private static final int LONGEST_WAIT = 2000;
    private static final int MOST_LEAPT = 1000;
    private static final long WIDEST_LEAP = 1000000000L;
    private static final int DRIFT_WITHOUT = 1000;
    private static final String AT_FIRST =
        "d1000;m0,990,1010;m1,1000,1030;m2,995,1005;m3,2000,2010;s1500,1,100,0;";

    private final Text text = new Text();
    private final Item item = new Item();
    private final State now = new State();
    private final Past past = new Past();
    private final Agreed agreement = new Agreed();
    private final Leap theLeap = new Leap();

    public DoubtTime() {
        text.putAll(AT_FIRST);
        layItems();
        text.size = 0;
    }

    // ---- told

    public int write(int letter) {
        if (letter < 32 || letter > 126) {
            return BAD;
        }
        if (text.size >= LETTERS) {
            return FULL;
        }
        text.put((char) letter);
        return text.size;
    }

    public int wipe() {
        int was = text.size;
        text.size = 0;
        return was;
    }

    public int fault() {
        int place = 0;
        for (int i = 0; i < LETTERS && place < text.size; i++) {
            if (!item.takeFrom(text, place)) {
                return place;
            }
            place = item.behind;
        }
        return NONE;
    }

    public int lay() {
        if (fault() != NONE) {
            return NO;
        }
        layItems();
        return now.masters.howManyHeard();
    }

    private void layItems() {
        now.clear();
        past.size = 0;
        theLeap.clear();
        int place = 0;
        for (int i = 0; i < LETTERS && place < text.size; i++) {
            if (!item.takeFrom(text, place)) {
                return;
            }
            layItem();
            place = item.behind;
        }
    }

    private void layItem() {
        long[] n = item.numbers;
        if (item.kind == 'd') {
            now.masters.drift = (int) n[0];
        } else if (item.kind == 'm') {
            now.masters.hear((int) n[0], n[1], n[2], 0);
        } else {
            theLeap.set(n[0], n[1], n[2], n[3]);
        }
    }

    // ---- masters

    public int tell(int m, long low, long high) {
        if (!isMaster(m) || !isToldSpan(low, high)) {
            return BAD;
        }
        past.keep(now);
        now.masters.hear(m, low, high, now.local);
        return now.masters.howManyHeard();
    }

    public int strike(int m, int is) {
        if (!isMaster(m) || is < 0 || is > 1) {
            return BAD;
        }
        if ((now.masters.struck >> m & 1) == is) {
            return NO;
        }
        past.keep(now);
        now.masters.struck ^= 1 << m;
        return now.masters.howManyHeard();
    }

    public int strikeLiars() {
        int lying = liars();
        if (lying == 0) {
            return NO;
        }
        past.keep(now);
        now.masters.struck |= lying;
        return Integer.bitCount(lying);
    }

    public int drift(int d) {
        if (!isDrift(d)) {
            return BAD;
        }
        int was = now.masters.drift;
        if (was == d) {
            return NO;
        }
        past.keep(now);
        now.masters.drift = d;
        return was;
    }

    public int go(int n) {
        if (n < 1 || n > LONGEST_GO) {
            return BAD;
        }
        past.keep(now);
        int doneBefore = now.commits.done;
        for (int i = 0; i < n; i++) {
            now.local++;
            finishCommits();
        }
        return now.commits.done - doneBefore;
    }

    private void finishCommits() {
        if (now.commits.howManyOpen() == 0) {
            return;
        }
        lookAround();
        if (agreement.isGood()) {
            now.commits.finishBelow(agreement.begin, now.local);
        }
    }

    public int undo() {
        if (past.size == 0) {
            return NO;
        }
        past.giveBack(now);
        return past.size;
    }

    // ---- what time it is

    public long span(int m, int what) {
        if (!isMaster(m) || what < 0 || what > 1) {
            return LONG_BAD;
        }
        if (!now.masters.hasTold(m)) {
            return LONG_NO;
        }
        return what == 0 ? now.masters.beginOf(m, now.local) : now.masters.endOf(m, now.local);
    }

    public long agreed(int what) {
        if (what < 0 || what > 1) {
            return LONG_BAD;
        }
        lookAround();
        if (agreement.heard == 0) {
            return LONG_NO;
        }
        return what == 0 ? agreement.begin : agreement.endOfRow();
    }

    public int good() {
        lookAround();
        return agreement.isGood() ? 1 : 0;
    }

    public int in(long tick) {
        if (!isAsked(tick)) {
            return BAD;
        }
        lookAround();
        return agreement.howManyHold(tick);
    }

    public int liars() {
        lookAround();
        long begin = agreement.begin;
        long end = agreement.endOfRow();
        int lying = 0;
        for (int m = 0; m < MASTERS; m++) {
            if (now.masters.isHeard(m) && !now.masters.meets(m, now.local, begin, end)) {
                lying |= 1 << m;
            }
        }
        return lying;
    }

    private void lookAround() {
        agreement.look(now.masters, now.local);
    }

    // ---- commits

    public int commit(int key, int value) {
        if (!isKey(key) || value < 0 || value > LAST_VALUE) {
            return BAD;
        }
        lookAround();
        if (!agreement.isGood()) {
            return NO;
        }
        if (now.commits.size >= COMMITS) {
            return FULL;
        }
        past.keep(now);
        now.commits.make(key, value, agreement.endOfRow(), now.local);
        return now.commits.size - 1;
    }

    public long commitOf(int c, int what) {
        if (!now.commits.has(c)) {
            return BAD;
        }
        switch (what) {
            case 0: return now.commits.key[c];
            case 1: return now.commits.value[c];
            case 2: return now.commits.stamp[c];
            case 3: return now.commits.madeAt[c];
            case 4: return now.commits.isOpen(c) ? NONE : now.commits.doneAt[c];
            default: return BAD;
        }
    }

    public int waiting(int c) {
        if (!now.commits.has(c)) {
            return BAD;
        }
        if (!now.commits.isOpen(c)) {
            return NO;
        }
        long stamp = now.commits.stamp[c];
        for (int wait = 0; wait <= LONGEST_WAIT; wait++) {
            agreement.look(now.masters, now.local + wait);
            if (agreement.isGood() && agreement.begin > stamp) {
                return wait;
            }
        }
        return NONE;
    }

    public long safe() {
        Commits commits = now.commits;
        if (commits.howManyOpen() > 0) {
            return commits.leastOpenStamp() - 1;
        }
        lookAround();
        long latest = commits.size > 0 ? commits.latestStamp() : LONG_NONE;
        return agreement.isGood() ? Math.max(agreement.begin - 1, latest) : latest;
    }

    public int read(int key, long tick) {
        if (!isKey(key) || !isAsked(tick)) {
            return BAD;
        }
        // No tick that can be asked for is as low as the answer that says that none is safe.
        if (tick > safe()) {
            return NO;
        }
        return now.commits.valueAsOf(key, tick);
    }

    public int between(int key, long from, long to) {
        if (key != ALL_KEYS && !isKey(key)) {
            return BAD;
        }
        if (!isAsked(from) || !isAsked(to) || from > to) {
            return BAD;
        }
        return now.commits.howManyStamped(key, from, to);
    }

    // ---- the leap

    public long leap(int what) {
        switch (what) {
            case 0: return theLeap.at;
            case 1: return theLeap.ticks;
            case 2: return theLeap.window;
            case 3: return theLeap.kind;
            default: return BAD;
        }
    }

    public long smeared(long tick) {
        return isAsked(tick) ? theLeap.smear(tick) : LONG_BAD;
    }

    public long back(long tick) {
        return isAsked(tick) ? theLeap.leastSmearedTo(tick) : BAD;
    }

    public int count(int what) {
        switch (what) {
            case 0: return now.local;
            case 1: return now.masters.drift;
            case 2: return now.masters.howManyHeard();
            case 3: return Integer.bitCount(now.masters.struck);
            case 4: return now.commits.size;
            case 5: return now.commits.howManyOpen();
            case 6: return past.size;
            case 7: return text.size;
            default: return BAD;
        }
    }

    // ---- which numbers are told

    private static boolean isMaster(long m) {
        return m >= 0 && m < MASTERS;
    }

    private static boolean isKey(int key) {
        return key >= 0 && key < KEYS;
    }

    private static boolean isDrift(long d) {
        return d >= 0 && d <= LAST_DRIFT;
    }

    private static boolean isToldSpan(long low, long high) {
        return low >= 0 && low <= high && high <= LAST_TOLD;
    }

    private static boolean isAsked(long tick) {
        return tick >= 0 && tick <= LAST_ASKED;
    }

    private static boolean isLeap(long at, long ticks, long window, long kind) {
        return at >= 0 && at <= LAST_TOLD
            && ticks >= 1 && ticks <= MOST_LEAPT
            && window > ticks && window <= WIDEST_LEAP
            && kind >= 0 && kind <= 1;
    }

    /** THE TEXT. */
    private static final class Text {
        private final char[] letters = new char[LETTERS];
        private int size = 0;

        /** Only behind a test that there is room. */
        void put(char letter) {
            letters[size] = letter;
            size++;
        }

        void putAll(String more) {
            for (int i = 0; i < more.length() && size < LETTERS; i++) {
                put(more.charAt(i));
            }
        }

        /** A letter that no ITEM has stands for the end, so that readers need no test of their own. */
        char letterAt(int place) {
            return place >= 0 && place < size ? letters[place] : 0;
        }
    }

    /** The ITEM of THE TEXT that was taken last. */
    private static final class Item {
        private final long[] numbers = new long[MOST_NUMBERS];
        private char kind = 0;
        private int behind = 0;

        /** Whether what begins at a place is an ITEM with its ; (behind is then the place behind it). */
        boolean takeFrom(Text text, int place) {
            kind = text.letterAt(place);
            behind = place + 1;
            int wanted = howManyNumbers();
            for (int i = 0; i < wanted && i < MOST_NUMBERS; i++) {
                char mark = i + 1 < wanted ? ',' : ';';
                if (!takeNumber(text, i, mark)) {
                    return false;
                }
            }
            return areNumbersTold();
        }

        private int howManyNumbers() {
            if (kind == 'd') {
                return 1;
            }
            if (kind == 'm') {
                return 3;
            }
            return kind == 's' ? 4 : 0;
        }

        private boolean takeNumber(Text text, int i, char mark) {
            long number = 0;
            int figures = 0;
            char letter = text.letterAt(behind);
            while (figures < FIGURES && letter >= '0' && letter <= '9') {
                int figure = letter - '0';
                if (number > (LAST_NUMBER - figure) / 10) {
                    return false;
                }
                number = number * 10 + figure;
                figures++;
                behind++;
                letter = text.letterAt(behind);
            }
            // A twentieth figure is no mark, so a number that is too long fails here, too.
            if (figures == 0 || letter != mark) {
                return false;
            }
            behind++;
            numbers[i] = number;
            return true;
        }

        private boolean areNumbersTold() {
            long[] n = numbers;
            if (kind == 'd') {
                return isDrift(n[0]);
            }
            if (kind == 'm') {
                return isMaster(n[0]) && isToldSpan(n[1], n[2]);
            }
            return kind == 's' && isLeap(n[0], n[1], n[2], n[3]);
        }
    }

    /** All that a change changes. */
    private static final class State {
        private final Masters masters = new Masters();
        private final Commits commits = new Commits();
        private int local = 0;

        void clear() {
            masters.clear();
            commits.clear();
            local = 0;
        }

        void copyFrom(State other) {
            masters.copyFrom(other.masters);
            commits.copyFrom(other.commits);
            local = other.local;
        }
    }

    /** The states before the latest changes, in a ring, so that a change makes no new objects. */
    private static final class Past {
        private final State[] states = new State[CHANGES];
        private int next = 0;
        private int size = 0;

        Past() {
            for (int i = 0; i < CHANGES; i++) {
                states[i] = new State();
            }
        }

        void keep(State state) {
            states[next].copyFrom(state);
            next = (next + 1) % CHANGES;
            size = Math.min(size + 1, CHANGES);
        }

        /** Only behind a test that there is one. */
        void giveBack(State state) {
            next = (next + CHANGES - 1) % CHANGES;
            size--;
            state.copyFrom(states[next]);
        }
    }

    /** What the MASTERS told last, and how their SPANS widen; bit m is of MASTER m. */
    private static final class Masters {
        private final long[] low = new long[MASTERS];
        private final long[] high = new long[MASTERS];
        private final int[] toldAt = new int[MASTERS];
        private int told = 0;
        private int struck = 0;
        private int drift = DRIFT_WITHOUT;

        void clear() {
            told = 0;
            struck = 0;
            drift = DRIFT_WITHOUT;
        }

        void copyFrom(Masters other) {
            System.arraycopy(other.low, 0, low, 0, MASTERS);
            System.arraycopy(other.high, 0, high, 0, MASTERS);
            System.arraycopy(other.toldAt, 0, toldAt, 0, MASTERS);
            told = other.told;
            struck = other.struck;
            drift = other.drift;
        }

        void hear(int m, long from, long to, int local) {
            low[m] = from;
            high[m] = to;
            toldAt[m] = local;
            told |= 1 << m;
        }

        boolean hasTold(int m) {
            return (told >> m & 1) == 1;
        }

        boolean isHeard(int m) {
            return ((told & ~struck) >> m & 1) == 1;
        }

        int howManyHeard() {
            return Integer.bitCount(told & ~struck);
        }

        long beginOf(int m, int local) {
            long gone = (long) local - toldAt[m];
            return low[m] + gone - widening(gone);
        }

        long endOf(int m, int local) {
            long gone = (long) local - toldAt[m];
            return high[m] + gone + widening(gone);
        }

        private long widening(long gone) {
            return (gone * drift + MILLION - 1) / MILLION;
        }

        boolean meets(int m, int local, long begin, long end) {
            return beginOf(m, local) <= end && endOf(m, local) >= begin;
        }
    }

    /** AGREED at the LOCAL that was looked at last. */
    private static final class Agreed {
        private final long[] begins = new long[MASTERS];
        private final long[] ends = new long[MASTERS];
        private int heard = 0;
        private int most = 0;
        private long begin = 0;

        void look(Masters masters, int local) {
            heard = 0;
            for (int m = 0; m < MASTERS; m++) {
                if (masters.isHeard(m)) {
                    begins[heard] = masters.beginOf(m, local);
                    ends[heard] = masters.endOf(m, local);
                    heard++;
                }
            }
            findBegin();
        }

        /** The first TICK that is in the most SPANS begins one of them: more only begin there. */
        private void findBegin() {
            most = 0;
            begin = 0;
            for (int i = 0; i < heard; i++) {
                int holding = howManyHold(begins[i]);
                if (holding > most || holding == most && begins[i] < begin) {
                    most = holding;
                    begin = begins[i];
                }
            }
        }

        /**
         * The row goes on behind a SPAN's end if as many SPANS hold the next TICK; from there to
         * the next end none can begin, since then more than the most would hold a TICK.
         */
        long endOfRow() {
            long end = begin;
            for (int i = 0; i < heard && howManyHold(end + 1) == most; i++) {
                end = leastEndOver(end + 1);
            }
            return end;
        }

        /** The least end of the SPANS that hold a TICK, which at least one does. */
        private long leastEndOver(long tick) {
            long least = LAST_NUMBER;
            for (int i = 0; i < heard; i++) {
                if (begins[i] <= tick && ends[i] >= tick) {
                    least = Math.min(least, ends[i]);
                }
            }
            return least;
        }

        int howManyHold(long tick) {
            int holding = 0;
            for (int i = 0; i < heard; i++) {
                if (begins[i] <= tick && ends[i] >= tick) {
                    holding++;
                }
            }
            return holding;
        }

        boolean isGood() {
            return 2 * most > heard;
        }
    }

    /**
     * The COMMITS. Their STAMPS rise with their numbers, so what makes one DONE makes all before it
     * DONE: the first ones are DONE, the others OPEN.
     */
    private static final class Commits {
        private final int[] key = new int[COMMITS];
        private final int[] value = new int[COMMITS];
        private final long[] stamp = new long[COMMITS];
        private final int[] madeAt = new int[COMMITS];
        private final int[] doneAt = new int[COMMITS];
        private int size = 0;
        private int done = 0;

        void clear() {
            size = 0;
            done = 0;
        }

        void copyFrom(Commits other) {
            System.arraycopy(other.key, 0, key, 0, COMMITS);
            System.arraycopy(other.value, 0, value, 0, COMMITS);
            System.arraycopy(other.stamp, 0, stamp, 0, COMMITS);
            System.arraycopy(other.madeAt, 0, madeAt, 0, COMMITS);
            System.arraycopy(other.doneAt, 0, doneAt, 0, COMMITS);
            size = other.size;
            done = other.done;
        }

        boolean has(int c) {
            return c >= 0 && c < size;
        }

        boolean isOpen(int c) {
            return c >= done;
        }

        int howManyOpen() {
            return size - done;
        }

        /** Only behind a test that there is room. */
        void make(int ofKey, int ofValue, long agreedEnd, int local) {
            key[size] = ofKey;
            value[size] = ofValue;
            stamp[size] = size > 0 ? Math.max(agreedEnd, latestStamp() + 1) : agreedEnd;
            madeAt[size] = local;
            size++;
        }

        void finishBelow(long begin, int local) {
            while (done < size && stamp[done] < begin) {
                doneAt[done] = local;
                done++;
            }
        }

        /** Only behind a test that there is a COMMIT. */
        long latestStamp() {
            return stamp[size - 1];
        }

        /** Only behind a test that one is OPEN. */
        long leastOpenStamp() {
            return stamp[done];
        }

        int valueAsOf(int ofKey, long tick) {
            int found = NONE;
            for (int c = 0; c < size; c++) {
                if (key[c] == ofKey && stamp[c] <= tick) {
                    found = value[c];
                }
            }
            return found;
        }

        int howManyStamped(int ofKey, long from, long to) {
            int found = 0;
            for (int c = 0; c < size; c++) {
                boolean isOfKey = ofKey == ALL_KEYS || key[c] == ofKey;
                if (isOfKey && stamp[c] >= from && stamp[c] <= to) {
                    found++;
                }
            }
            return found;
        }
    }

    /** THE LEAP. */
    private static final class Leap {
        private long at = 0;
        private long ticks = 0;
        private long window = 0;
        private long kind = 0;

        void clear() {
            set(1000, 1, 100, 0);
        }

        void set(long atTick, long howMany, long over, long ofKind) {
            at = atTick;
            ticks = howMany;
            window = over;
            kind = ofKind;
        }

        long smear(long tick) {
            return kind == 0 ? tick + shift(tick) : tick - shift(tick);
        }

        private long shift(long tick) {
            if (tick <= at) {
                return 0;
            }
            if (tick >= at + window || window <= 0) {
                return ticks;
            }
            return ticks * (tick - at) / window;
        }

        /**
         * The least TICK that is SMEARED to one or more: SMEARED never falls, for the window is
         * wider than what is leapt, and no TICK is moved by more than that.
         */
        long leastSmearedTo(long smearedTick) {
            long least = Math.max(0, smearedTick - ticks);
            long enough = smearedTick + ticks;
            for (int halving = 0; halving < 64 && least < enough; halving++) {
                long middle = least + (enough - least) / 2;
                if (smear(middle) >= smearedTick) {
                    enough = middle;
                } else {
                    least = middle + 1;
                }
            }
            return least;
        }
    }
}
