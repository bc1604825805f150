/** Compares answers with those that are due, tells the others, and ends a test. */
final class Due {
    private static int wrong = 0;
    /** What is tested at present, told before each wrong answer. */
    private static String at = "";

    private Due() {
    }

    static void at(String what) {
        at = what.isEmpty() ? "" : what + ": ";
    }

    static void is(String call, long got, long want) {
        if (got != want) {
            fail(call + " answered " + got + ", due is " + want);
        }
    }

    /** Compares the answers of calls with equal names. */
    static void are(String calls, long[] got, long... want) {
        is("the number of answers of " + calls, got.length, want.length);
        for (int i = 0; i < got.length && i < want.length; i++) {
            is(calls + ", number " + i + ",", got[i], want[i]);
        }
    }

    static void fail(String what) {
        wrong++;
        System.out.println(at + what);
    }

    static void end() {
        System.out.println(wrong == 0 ? "all answers are as due" : wrong + " answers are not as due");
        if (wrong != 0) {
            System.exit(1);
        }
    }
}
