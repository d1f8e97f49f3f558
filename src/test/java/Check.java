/** Counts the answers that are as due, and prints those that are not. */
final class Check {
    private static int passed = 0;
    private static int failed = 0;
    /** The words of the document that are being tested, if a test has named them. */
    private static String about = "";

    private Check() {
    }

    static void about(String words) {
        about = words;
    }

    static void due(String call, long got, long want) {
        count(got == want, call, " answered " + got + ", due is " + want);
    }

    static void holds(String what, boolean is) {
        count(is, what, ": not so");
    }

    private static void count(boolean good, String what, String fault) {
        if (good) {
            passed++;
        } else {
            failed++;
            System.out.println(what + fault + (about.isEmpty() ? "" : " [" + about + "]"));
        }
    }

    /** Prints the count; returns whether all was as due. */
    static boolean report() {
        System.out.println(passed + " passed, " + failed + " failed");
        return failed == 0;
    }
}
