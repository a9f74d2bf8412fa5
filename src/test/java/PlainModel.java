import java.math.BigInteger;
import java.util.ArrayList;
import java.util.List;
import java.util.TreeSet;
import java.util.regex.Matcher;
import java.util.regex.Pattern;

/**
 * The document in its plainest form, written apart from the class: THE TEXT by patterns, AGREED by
 * all stretches between which anything changes, UNDONE by doing all but the latest change again,
 * BACK by counting up.
 */
final class PlainModel {
    private static final int BAD = -1, NO = -2, FULL = -3, NONE = -4;
    private static final long FAR = 2000000000000L;
    private static final Pattern ITEM = Pattern.compile("([dms])([0-9]{1,19}(?:,[0-9]{1,19})*);");

    private static final class Told {
        final long low;
        final long high;
        final long at;

        Told(long low, long high, long at) {
            this.low = low;
            this.high = high;
            this.at = at;
        }
    }

    private static final class Written {
        final int key;
        final int value;
        final long stamp;
        final long made;
        Long done = null;

        Written(int key, int value, long stamp, long made) {
            this.key = key;
            this.value = value;
            this.stamp = stamp;
            this.made = made;
        }
    }

    private static final class Change {
        final char kind;
        final long a;
        final long b;
        final long c;

        Change(char kind, long a, long b, long c) {
            this.kind = kind;
            this.a = a;
            this.b = b;
            this.c = c;
        }
    }

    private static final class Row {
        long begin;
        long end;
        boolean good;
    }

    private String text = "";
    private String laid = "d1000;m0,990,1010;m1,1000,1030;m2,995,1005;m3,2000,2010;s1500,1,100,0;";
    private final List<Change> changes = new ArrayList<>();
    private int undoable = 0;

    private long local;
    private long drift;
    private final Told[] told = new Told[6];
    private final boolean[] struck = new boolean[6];
    private final List<Written> commits = new ArrayList<>();
    private long[] leap;

    PlainModel() {
        layAgain();
    }

    // ---- the state, from what was laid and the changes behind it

    private void layAgain() {
        local = 0;
        drift = 1000;
        leap = new long[] {1000, 1, 100, 0};
        commits.clear();
        for (int m = 0; m < 6; m++) {
            told[m] = null;
            struck[m] = false;
        }
        Matcher items = ITEM.matcher(laid);
        while (items.find()) {
            long[] n = numbers(items.group(2));
            switch (items.group(1)) {
                case "d" -> drift = n[0];
                case "m" -> told[(int) n[0]] = new Told(n[1], n[2], 0);
                default -> leap = n;
            }
        }
    }

    private static long[] numbers(String list) {
        String[] parts = list.split(",");
        long[] n = new long[parts.length];
        for (int i = 0; i < n.length; i++) {
            BigInteger big = new BigInteger(parts[i]);
            n[i] = big.bitLength() > 63 ? Long.MAX_VALUE : big.longValue();
        }
        return n;
    }

    private int change(char kind, long a, long b, long c) {
        Change change = new Change(kind, a, b, c);
        changes.add(change);
        undoable = Math.min(6, undoable + 1);
        return apply(change);
    }

    private int apply(Change change) {
        int a = (int) change.a;
        switch (change.kind) {
            case 't':
                told[a] = new Told(change.b, change.c, local);
                return heard().size();
            case 'x':
                struck[a] = change.b == 1;
                return heard().size();
            case 'l':
                List<Integer> lying = lying();
                lying.forEach(m -> struck[m] = true);
                return lying.size();
            case 'd':
                long was = drift;
                drift = a;
                return (int) was;
            case 'c':
                long stamp = row().end;
                for (Written w : commits) {
                    stamp = Math.max(stamp, w.stamp + 1);
                }
                commits.add(new Written(a, (int) change.b, stamp, local));
                return commits.size() - 1;
            default:
                return goOn(a);
        }
    }

    private int goOn(int n) {
        int done = 0;
        for (int i = 0; i < n; i++) {
            local++;
            Row row = row();
            for (Written w : commits) {
                if (w.done == null && row != null && row.good && row.begin > w.stamp) {
                    w.done = local;
                    done++;
                }
            }
        }
        return done;
    }

    // ---- spans

    private long begin(int m) {
        long g = local - told[m].at;
        return told[m].low + g - widened(g);
    }

    private long end(int m) {
        long g = local - told[m].at;
        return told[m].high + g + widened(g);
    }

    private long widened(long g) {
        BigInteger[] parts = BigInteger.valueOf(g).multiply(BigInteger.valueOf(drift))
            .divideAndRemainder(BigInteger.valueOf(1000000));
        return parts[0].longValue() + (parts[1].signum() > 0 ? 1 : 0);
    }

    private List<Integer> heard() {
        List<Integer> heard = new ArrayList<>();
        for (int m = 0; m < 6; m++) {
            if (told[m] != null && !struck[m]) {
                heard.add(m);
            }
        }
        return heard;
    }

    private int holding(long tick) {
        int n = 0;
        for (int m : heard()) {
            if (begin(m) <= tick && tick <= end(m)) {
                n++;
            }
        }
        return n;
    }

    /** Null if nobody is HEARD. */
    private Row row() {
        List<Integer> heard = heard();
        if (heard.isEmpty()) {
            return null;
        }
        TreeSet<Long> turns = new TreeSet<>();
        for (int m : heard) {
            turns.add(begin(m));
            turns.add(end(m) + 1);
        }
        int most = 0;
        for (long turn : turns) {
            most = Math.max(most, holding(turn));
        }
        Row row = new Row();
        row.good = most * 2 > heard.size();
        boolean inRow = false;
        for (long turn : turns) {
            boolean isMost = holding(turn) == most;
            if (isMost && !inRow) {
                row.begin = turn;
                inRow = true;
            } else if (!isMost && inRow) {
                row.end = turn - 1;
                return row;
            }
        }
        throw new IllegalStateException("a row without an end");
    }

    private List<Integer> lying() {
        List<Integer> lying = new ArrayList<>();
        Row row = row();
        for (int m : heard()) {
            if (end(m) < row.begin || begin(m) > row.end) {
                lying.add(m);
            }
        }
        return lying;
    }

    // ---- the calls

    int write(int letter) {
        if (letter < 32 || letter > 126) {
            return BAD;
        }
        if (text.length() == 200) {
            return FULL;
        }
        text += (char) letter;
        return text.length();
    }

    int wipe() {
        int was = text.length();
        text = "";
        return was;
    }

    int fault() {
        Matcher items = ITEM.matcher(text);
        int place = 0;
        while (place < text.length()) {
            items.region(place, text.length());
            if (!items.lookingAt() || !isSo(items.group(1), numbers(items.group(2)))) {
                return place;
            }
            place = items.end();
        }
        return NONE;
    }

    private static boolean isSo(String kind, long[] n) {
        switch (kind) {
            case "d":
                return n.length == 1 && n[0] <= 999999;
            case "m":
                return n.length == 3 && n[0] <= 5 && n[1] <= n[2] && n[2] <= FAR / 2;
            default:
                return n.length == 4 && n[0] <= FAR / 2 && 1 <= n[1] && n[1] <= 1000
                    && n[1] + 1 <= n[2] && n[2] <= 1000000000 && n[3] <= 1;
        }
    }

    int lay() {
        if (fault() != NONE) {
            return NO;
        }
        laid = text;
        changes.clear();
        undoable = 0;
        layAgain();
        return heard().size();
    }

    int tell(int m, long low, long high) {
        if (m < 0 || m > 5 || low < 0 || high > FAR / 2 || low > high) {
            return BAD;
        }
        return change('t', m, low, high);
    }

    int strike(int m, int is) {
        if (m < 0 || m > 5 || is != 0 && is != 1) {
            return BAD;
        }
        return struck[m] == (is == 1) ? NO : change('x', m, is, 0);
    }

    int strikeLiars() {
        return lying().isEmpty() ? NO : change('l', 0, 0, 0);
    }

    int drift(int d) {
        if (d < 0 || d > 999999) {
            return BAD;
        }
        return d == drift ? NO : change('d', d, 0, 0);
    }

    int go(int n) {
        return n < 1 || n > 5000 ? BAD : change('g', n, 0, 0);
    }

    int undo() {
        if (undoable == 0) {
            return NO;
        }
        undoable--;
        changes.remove(changes.size() - 1);
        layAgain();
        changes.forEach(this::apply);
        return undoable;
    }

    long span(int m, int what) {
        if (m < 0 || m > 5 || what != 0 && what != 1) {
            return -FAR;
        }
        if (told[m] == null) {
            return -FAR - 1;
        }
        return what == 0 ? begin(m) : end(m);
    }

    long agreed(int what) {
        if (what != 0 && what != 1) {
            return -FAR;
        }
        Row row = row();
        if (row == null) {
            return -FAR - 1;
        }
        return what == 0 ? row.begin : row.end;
    }

    int good() {
        Row row = row();
        return row != null && row.good ? 1 : 0;
    }

    int in(long tick) {
        return tick < 0 || tick > FAR ? BAD : holding(tick);
    }

    int liars() {
        int bits = 0;
        for (int m : lying()) {
            bits += 1 << m;
        }
        return bits;
    }

    int commit(int key, int value) {
        if (key < 0 || key > 5 || value < 0 || value > 999999) {
            return BAD;
        }
        if (good() == 0) {
            return NO;
        }
        return commits.size() == 16 ? FULL : change('c', key, value, 0);
    }

    long commitOf(int c, int what) {
        if (c < 0 || c >= commits.size() || what < 0 || what > 4) {
            return BAD;
        }
        Written w = commits.get(c);
        Long[] of = {(long) w.key, (long) w.value, w.stamp, w.made, w.done == null ? Long.valueOf(NONE) : w.done};
        return of[what];
    }

    int waiting(int c) {
        if (c < 0 || c >= commits.size()) {
            return BAD;
        }
        Written w = commits.get(c);
        if (w.done != null) {
            return NO;
        }
        long before = local;
        int wait = NONE;
        for (int n = 0; n <= 2000 && wait == NONE; n++, local++) {
            Row row = row();
            if (row != null && row.good && row.begin > w.stamp) {
                wait = n;
            }
        }
        local = before;
        return wait;
    }

    /** Null: no TICK is. */
    private Long latestSafe() {
        Long least = null;
        Long latest = null;
        for (Written w : commits) {
            if (w.done == null && (least == null || w.stamp < least)) {
                least = w.stamp;
            }
            if (latest == null || w.stamp > latest) {
                latest = w.stamp;
            }
        }
        if (least != null) {
            return least - 1;
        }
        Row row = row();
        if (row == null || !row.good) {
            return latest;
        }
        return latest == null || row.begin - 1 > latest ? Long.valueOf(row.begin - 1) : latest;
    }

    long safe() {
        Long safe = latestSafe();
        return safe == null ? -FAR : safe;
    }

    int read(int key, long tick) {
        if (key < 0 || key > 5 || tick < 0 || tick > FAR) {
            return BAD;
        }
        Long safe = latestSafe();
        if (safe == null || tick > safe) {
            return NO;
        }
        Written best = null;
        for (Written w : commits) {
            if (w.key == key && w.stamp <= tick && (best == null || w.stamp > best.stamp)) {
                best = w;
            }
        }
        return best == null ? NONE : best.value;
    }

    int between(int key, long from, long to) {
        if (key < -1 || key > 5 || from < 0 || to > FAR || from > to) {
            return BAD;
        }
        return (int) commits.stream()
            .filter(w -> (key == -1 || w.key == key) && from <= w.stamp && w.stamp <= to).count();
    }

    long leap(int what) {
        return what < 0 || what > 3 ? BAD : leap[what];
    }

    private long smear(long t) {
        long sign = leap[3] == 0 ? 1 : -1;
        if (t <= leap[0]) {
            return t;
        }
        if (t >= leap[0] + leap[2]) {
            return t + sign * leap[1];
        }
        BigInteger part = BigInteger.valueOf(t - leap[0]).multiply(BigInteger.valueOf(leap[1]))
            .divide(BigInteger.valueOf(leap[2]));
        return t + sign * part.longValue();
    }

    long smeared(long tick) {
        return tick < 0 || tick > FAR ? -FAR : smear(tick);
    }

    long back(long tick) {
        if (tick < 0 || tick > FAR) {
            return BAD;
        }
        long t = Math.max(0, tick - 1001);
        while (smear(t) < tick) {
            t++;
        }
        return t;
    }

    int count(int what) {
        switch (what) {
            case 0: return (int) local;
            case 1: return (int) drift;
            case 2: return heard().size();
            case 3: {
                int n = 0;
                for (boolean is : struck) {
                    n += is ? 1 : 0;
                }
                return n;
            }
            case 4: return commits.size();
            case 5: return (int) commits.stream().filter(w -> w.done == null).count();
            case 6: return undoable;
            case 7: return text.length();
            default: return BAD;
        }
    }
}
