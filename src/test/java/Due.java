/** Compares answers with what is due, and ends a test with exit code 1 if one was not. */
final class Due {
    private static final int MOST_LINES = 40;
    private static int compared = 0;
    private static int wrong = 0;

    private Due() {
    }

    static void is(String call, long got, long want) {
        compared++;
        if (got != want) {
            tell(call + " answered " + got + ", due is " + want);
        }
    }

    static void holds(String what, boolean so) {
        compared++;
        if (!so) {
            tell(what + " does not hold");
        }
    }

    /** Compares a row of answers with a row that is due. */
    static void are(String call, long[] got, long... want) {
        is("length of " + call, got.length, want.length);
        for (int i = 0; i < Math.min(got.length, want.length); i++) {
            is(call + "[" + i + "]", got[i], want[i]);
        }
    }

    static int wrong() {
        return wrong;
    }

    static void finish() {
        System.out.println(compared + " answers compared, " + wrong + " not as due");
        if (wrong != 0 || compared == 0) {
            System.exit(1);
        }
    }

    private static void tell(String line) {
        wrong++;
        if (wrong <= MOST_LINES) {
            System.out.println(line);
        }
    }
}
