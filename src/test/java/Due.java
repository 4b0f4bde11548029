/** Counts the answers of a test that are not as due. */
final class Due {
    private static int wrong = 0;
    private static int printed = 0;
    private static int sentences = 0;
    private static String sentence = "";

    private Due() {
    }

    /** What follows holds these words of the document; wrong answers are printed with them. */
    static void sentence(String promise, String words) {
        sentence = "[" + promise + ": " + words + "] ";
        sentences++;
        printed = 0;
    }

    static void same(String call, long got, long want) {
        if (got != want) {
            say(call + " answered " + got + ", due is " + want);
        }
    }

    static void same(String what, byte[] got, byte[] want) {
        if (!java.util.Arrays.equals(got, want)) {
            say(what + ": " + got.length + " bytes that are not the " + want.length + " due");
        }
    }

    static void same(String what, String got, String want) {
        if (!got.equals(want)) {
            say(what + " is " + got + ", due is " + want);
        }
    }

    static void holds(String what, boolean truth) {
        if (!truth) {
            say(what + " does not hold");
        }
    }

    /** Only the first ones are printed: one broken promise can make thousands of wrong answers. */
    private static void say(String what) {
        wrong++;
        printed++;
        if (printed <= 20) {
            System.out.println(sentence + what);
        }
    }

    static void end() {
        if (sentences > 0) {
            System.out.println(sentences + " sentences were looked at");
        }
        System.out.println(wrong == 0 ? "all answers are as due" : wrong + " answers are not as due");
        if (wrong != 0) {
            System.exit(1);
        }
    }
}
