/** What the tests share: counts answers that are not as due, and ends the test. */
final class Check {
    static final long LONG_BAD = -2000000000000L;
    static final long LONG_NO = -2000000000001L;
    static final long LONG_NONE = -2000000000000L;
    static final long BILLIONS = 1000000000000L;

    private final String test;
    private int calls = 0;
    private int wrong = 0;

    Check(String test) {
        this.test = test;
    }

    void due(int promise, String call, long got, long want) {
        due("promise " + promise, call, got, want);
    }

    void due(String of, String call, long got, long want) {
        calls++;
        if (got != want) {
            wrong++;
            System.out.println(test + ", " + of + ": " + call + " answered " + got + ", due is " + want);
        }
    }

    void isTrue(String what, boolean holds) {
        calls++;
        if (!holds) {
            wrong++;
            System.out.println(test + ": not so: " + what);
        }
    }

    void end() {
        System.out.println(test + ": " + calls + " looked at, " + wrong + " wrong");
        if (wrong != 0) {
            System.exit(1);
        }
    }

    /** Writes a text behind THE TEXT, letter by letter. */
    static void put(DoubtTime x, String letters) {
        for (int i = 0; i < letters.length(); i++) {
            x.write(letters.charAt(i));
        }
    }

    /** A new object with THE TEXT, that being laid where it has no fault. */
    static DoubtTime laid(String letters) {
        DoubtTime x = new DoubtTime();
        put(x, letters);
        x.lay();
        return x;
    }
}
