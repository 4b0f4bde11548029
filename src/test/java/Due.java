/** Counts the answers of a test that are not as due. */
final class Due {
    private static int wrong = 0;

    private Due() {
    }

    static void same(String call, long got, long want) {
        if (got != want) {
            say(call + " answered " + got + ", due is " + want);
        }
    }

    static void same(String what, byte[] got, byte[] want) {
        if (!java.util.Arrays.equals(got, want)) {
            say(what + ": " + got.length + " bytes that are not the " + want.length + " due");
        }
    }

    static void holds(String what, boolean truth) {
        if (!truth) {
            say(what + " does not hold");
        }
    }

    /** Only the first ones are printed: one broken promise can make thousands of wrong answers. */
    private static void say(String what) {
        wrong++;
        if (wrong <= 50) {
            System.out.println(what);
        }
    }

    static void end() {
        System.out.println(wrong == 0 ? "all answers are as due" : wrong + " answers are not as due");
        if (wrong != 0) {
            System.exit(1);
        }
    }
}
