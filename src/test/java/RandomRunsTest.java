import java.util.Random;

/** All promises: runs of 512 calls, drawn from fixed seeds, answered as the plain model answers. */
public final class RandomRunsTest {
    private static final int RUNS = 300;
    private static final int CALLS = 512;
    private static final long FAR = 2000000000000L;

    private final Random random;
    private final DoubtTime x = new DoubtTime();
    private final PlainModel plain = new PlainModel();
    /** Where the ticks of this run lie, and how far apart. */
    private final long base;
    private final int width;
    private final int longestGo;
    private String pending = "";
    private String call = "";
    private long got;
    private long want;

    private RandomRunsTest(long seed) {
        random = new Random(seed);
        long[] bases = {0, 0, 1000, FAR / 2 - 60};
        base = bases[random.nextInt(bases.length)];
        int[] widths = {6, 20, 60, 60};
        width = widths[random.nextInt(widths.length)];
        int[] goes = {3, 20, 60, 300};
        longestGo = goes[random.nextInt(goes.length)];
    }

    public static void main(String[] args) {
        int wrong = 0;
        for (int seed = 0; seed < RUNS && wrong < 10; seed++) {
            wrong += new RandomRunsTest(seed).run(seed);
        }
        System.out.println("RandomRunsTest: " + RUNS + " runs, " + wrong + " wrong");
        if (wrong != 0) {
            System.exit(1);
        }
    }

    /** 1 if an answer was not as due; the run ends there. */
    private int run(int seed) {
        for (int i = 0; i < CALLS; i++) {
            step();
            if (got != want) {
                System.out.println("run " + seed + ", call " + i + ": " + call + " answered " + got
                    + ", due is " + want);
                return 1;
            }
        }
        return 0;
    }

    private void step() {
        if (!pending.isEmpty()) {
            writeNext();
            return;
        }
        int kind = random.nextInt(100);
        if (kind < 2) {
            pending = text();
            take("wipe()", x.wipe(), plain.wipe());
        } else if (kind < 8) {
            textCall();
        } else if (kind < 50) {
            change();
        } else if (kind < 70) {
            askTime();
        } else if (kind < 90) {
            askCommits();
        } else {
            askLeap();
        }
    }

    private void take(String what, long answered, long due) {
        call = what;
        got = answered;
        want = due;
    }

    // ---- texts

    private void writeNext() {
        int letter = pending.charAt(0);
        pending = pending.substring(1);
        if (pending.isEmpty()) {
            // What was written whole is laid soon, or the run would seldom see it.
            take("lay()", x.lay(), plain.lay());
            return;
        }
        take("write(" + letter + ")", x.write(letter), plain.write(letter));
    }

    private String text() {
        StringBuilder out = new StringBuilder();
        int items = random.nextInt(6);
        for (int i = 0; i < items; i++) {
            out.append(item());
        }
        if (out.length() > 0 && random.nextInt(4) == 0) {
            String letters = "dms0123456789,; -";
            out.setCharAt(random.nextInt(out.length()), letters.charAt(random.nextInt(letters.length())));
        }
        return out + "!";
    }

    private String item() {
        int kind = random.nextInt(6);
        if (kind == 0) {
            return "d" + someDrift() + ";";
        }
        if (kind == 1) {
            int a = 1 + random.nextInt(random.nextBoolean() ? 4 : 1000);
            int w = a + 1 + random.nextInt(random.nextBoolean() ? 4 : 2000);
            return "s" + (base + random.nextInt(width)) + "," + a + "," + w + "," + random.nextInt(2) + ";";
        }
        long low = base + random.nextInt(width / 2);
        long high = Math.min(FAR / 2, low + random.nextInt(width / 2));
        return "m" + random.nextInt(6) + "," + low + "," + high + ";";
    }

    private void textCall() {
        int letter = random.nextInt(160) - 10;
        switch (random.nextInt(4)) {
            case 0 -> take("fault()", x.fault(), plain.fault());
            case 1 -> take("lay()", x.lay(), plain.lay());
            case 2 -> take("write(" + letter + ")", x.write(letter), plain.write(letter));
            default -> take("wipe()", x.wipe(), plain.wipe());
        }
    }

    // ---- numbers, wrong ones among them

    private int some(int size) {
        return random.nextInt(25) == 0 ? random.nextBoolean() ? -1 : size : random.nextInt(size);
    }

    private int someDrift() {
        int[] drifts = {0, 1, 1000, 250000, 500000, 999999, random.nextInt(1000000)};
        return drifts[random.nextInt(drifts.length)];
    }

    private long someTick() {
        long[] edges = {-1, 0, FAR, FAR + 1, Long.MIN_VALUE, Long.MAX_VALUE, 2000, 999};
        if (random.nextInt(12) == 0) {
            return edges[random.nextInt(edges.length)];
        }
        long near = random.nextBoolean() ? base : Math.max(base, plain.agreed(0) - width);
        return near + random.nextInt(3 * width);
    }

    // ---- calls

    private void change() {
        int m = some(6);
        switch (random.nextInt(12)) {
            case 0, 1, 2 -> {
                // Masters that tell what they might know: near base and what has gone on since.
                long low = base + (random.nextInt(3) == 0 ? 0 : plain.count(0)) + random.nextInt(width);
                long high = low - 1 + random.nextInt(width / 2) + (random.nextInt(10) == 0 ? 0 : 1);
                take("tell(" + m + ", " + low + ", " + high + ")", x.tell(m, low, high), plain.tell(m, low, high));
            }
            case 3 -> {
                int is = random.nextInt(3) == 0 ? some(2) : 0;
                take("strike(" + m + ", " + is + ")", x.strike(m, is), plain.strike(m, is));
            }
            case 4 -> take("strikeLiars()", x.strikeLiars(), plain.strikeLiars());
            case 5 -> {
                int d = random.nextInt(15) == 0 ? 1000000 : someDrift();
                take("drift(" + d + ")", x.drift(d), plain.drift(d));
            }
            case 6, 7, 8 -> {
                int n = random.nextInt(30) == 0 ? 5001 : random.nextInt(longestGo + 1);
                take("go(" + n + ")", x.go(n), plain.go(n));
            }
            case 9, 10 -> {
                int value = random.nextInt(20) == 0 ? 1000000 : random.nextInt(1000000);
                take("commit(" + m + ", " + value + ")", x.commit(m, value), plain.commit(m, value));
            }
            default -> take("undo()", x.undo(), plain.undo());
        }
    }

    private void askTime() {
        int m = some(6);
        int what = some(2);
        long tick = someTick();
        switch (random.nextInt(6)) {
            case 0 -> take("span(" + m + ", " + what + ")", x.span(m, what), plain.span(m, what));
            case 1, 2 -> take("agreed(" + what + ")", x.agreed(what), plain.agreed(what));
            case 3 -> take("good()", x.good(), plain.good());
            case 4 -> take("in(" + tick + ")", x.in(tick), plain.in(tick));
            default -> take("liars()", x.liars(), plain.liars());
        }
    }

    private void askCommits() {
        int c = some(Math.max(1, plain.count(4)));
        int what = some(5);
        int key = some(6);
        long tick = someTick();
        long to = someTick();
        switch (random.nextInt(6)) {
            case 0, 1 -> take("commitOf(" + c + ", " + what + ")", x.commitOf(c, what), plain.commitOf(c, what));
            case 2 -> take("waiting(" + c + ")", x.waiting(c), plain.waiting(c));
            case 3 -> take("safe()", x.safe(), plain.safe());
            case 4 -> take("read(" + key + ", " + tick + ")", x.read(key, tick), plain.read(key, tick));
            default -> take("between(" + key + ", " + tick + ", " + to + ")", x.between(key, tick, to),
                plain.between(key, tick, to));
        }
    }

    private void askLeap() {
        int what = some(4);
        int which = some(8);
        long tick = someTick();
        switch (random.nextInt(5)) {
            case 0 -> take("leap(" + what + ")", x.leap(what), plain.leap(what));
            case 1 -> take("smeared(" + tick + ")", x.smeared(tick), plain.smeared(tick));
            case 2 -> take("back(" + tick + ")", x.back(tick), plain.back(tick));
            default -> take("count(" + which + ")", x.count(which), plain.count(which));
        }
    }
}
