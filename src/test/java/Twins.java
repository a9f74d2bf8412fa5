import java.util.ArrayList;
import java.util.List;

/** Objects made alike: what can be asked of them, now or behind further calls, tells them apart. */
final class Twins {
    interface Maker {
        DoubtTime make();
    }

    interface Call {
        long on(DoubtTime x);
    }

    /** What may be done behind a call to bring to light what it left inside. */
    private static final Call[] FURTHER = {
        x -> 0, x -> undo(x, 1), x -> undo(x, 2), x -> undo(x, 3), x -> undo(x, 4), x -> undo(x, 5), x -> undo(x, 6),
        x -> x.lay(), x -> x.write(';'), x -> x.write('1'), x -> x.wipe(), x -> x.go(1), x -> x.go(300),
        x -> x.commit(3, 33), x -> x.tell(4, 5, 6), x -> x.strike(1, 0), x -> x.strikeLiars(), x -> x.drift(3)};

    private Twins() {
    }

    private static long undo(DoubtTime x, int times) {
        long left = 0;
        for (int i = 0; i < times; i++) {
            left = x.undo();
        }
        return left;
    }

    /** The first answer that tells an object from its twin on which one more call was made; null: none does. */
    static String difference(Maker maker, Call more) {
        for (int i = 0; i < FURTHER.length; i++) {
            DoubtTime twin = maker.make();
            DoubtTime called = maker.make();
            more.on(called);
            List<String> want = asked(twin, FURTHER[i].on(twin));
            List<String> got = asked(called, FURTHER[i].on(called));
            for (int k = 0; k < want.size() && k < got.size(); k++) {
                if (!want.get(k).equals(got.get(k))) {
                    return "behind further call " + i + ": " + got.get(k) + ", not " + want.get(k);
                }
            }
            if (want.size() != got.size()) {
                return "behind further call " + i + ": not as many answers";
            }
        }
        return null;
    }

    /** All that can be asked of an object; some 200 calls at most. */
    private static List<String> asked(DoubtTime x, long answer) {
        List<String> out = new ArrayList<>();
        out.add("it answered " + answer);
        for (int what = 0; what < 8; what++) {
            out.add("count(" + what + ") " + x.count(what));
        }
        for (int m = 0; m < 6; m++) {
            out.add("span(" + m + ") " + x.span(m, 0) + " to " + x.span(m, 1));
        }
        out.add("agreed " + x.agreed(0) + " to " + x.agreed(1) + ", good " + x.good() + ", liars " + x.liars());
        out.add("fault " + x.fault());
        for (int what = 0; what < 4; what++) {
            out.add("leap(" + what + ") " + x.leap(what));
        }
        out.add("smeared " + x.smeared(11) + ", " + x.smeared(1600) + ", back " + x.back(12) + ", " + x.back(1601));
        askCommits(x, out);
        return out;
    }

    private static void askCommits(DoubtTime x, List<String> out) {
        int commits = x.count(4);
        for (int c = 0; c <= commits; c++) {
            StringBuilder of = new StringBuilder("commitOf(" + c + ")");
            for (int what = 0; what < 5; what++) {
                of.append(' ').append(x.commitOf(c, what));
            }
            out.add(of.toString());
        }
        out.add("waiting(0) " + x.waiting(0));
        out.add("waiting(last) " + x.waiting(commits - 1));
        long safe = x.safe();
        out.add("safe " + safe);
        for (int key = 0; key < 6; key++) {
            out.add("read(" + key + ") " + x.read(key, safe) + ", " + x.read(key, safe + 1));
            out.add("between(" + key + ") " + x.between(key, 0, 5000));
        }
    }
}
