/** Counts answers, and prints those that are not the ones that are due. */
final class Due {
    private static String test = "";
    private static int right = 0;
    private static int wrong = 0;

    private Due() {
    }

    /** All that comes is said to be of this test. */
    static void of(String name) {
        test = name + ": ";
    }

    static void due(String call, long got, long want) {
        if (got == want) {
            right++;
        } else {
            wrong++;
            System.out.println(test + call + " answered " + got + ", due is " + want);
        }
    }

    static void holds(String what, boolean isSo) {
        due(what, isSo ? 1 : 0, 1);
    }

    static void end(String test) {
        System.out.println(test + ": " + right + " as due, " + wrong + " not");
        if (wrong != 0 || right == 0) {
            System.exit(1);
        }
    }
}
