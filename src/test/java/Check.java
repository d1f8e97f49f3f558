/** Counts the answers that are as due, and prints those that are not. */
final class Check {
    private static int passed = 0;
    private static int failed = 0;

    private Check() {
    }

    static void due(String call, long got, long want) {
        if (got == want) {
            passed++;
        } else {
            failed++;
            System.out.println(call + " answered " + got + ", due is " + want);
        }
    }

    static void holds(String what, boolean is) {
        if (is) {
            passed++;
        } else {
            failed++;
            System.out.println("not so: " + what);
        }
    }

    /** Prints the count; returns whether all was as due. */
    static boolean report() {
        System.out.println(passed + " passed, " + failed + " failed");
        return failed == 0;
    }
}
