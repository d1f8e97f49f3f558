/** Sites and values that several tests use. */
final class Sites {
    static final int NONE = -100, BAD_INDEX = -101, BAD_VALUE = -102, BAD_STATE = -103, FULL = -104;

    static final int ANGLE = 0, PACE = 1, PRIORITY = 2, TARGET = 3, WAY = 4, PROGRESS = 5, WAIT = 6, LEFT = 7,
            OCCUPIED = 8, STEPS = 9;

    /** Beyond every range of the document, on both sides. */
    static final int[] FAR = {Integer.MIN_VALUE, -1000, 1000, Integer.MAX_VALUE};

    private Sites() {
    }

    /** Cranes of pace 1 and priority 0 at the angles. */
    static CraneGuard withCranes(int... angles) {
        CraneGuard x = new CraneGuard();
        for (int angle : angles) {
            x.addCrane(angle, 1, 0);
        }
        return x;
    }

    /**
     * Cranes 0 and 1 face each other at the angles 3 and 6 of zone 0 and zone 1, so that each holds the zone
     * that the other one needs for its next step.
     */
    static CraneGuard inCycle() {
        CraneGuard x = withCranes(3, 3);
        x.setArc(0, 0, 3, 3);
        x.setArc(0, 1, 4, 4);
        x.setArc(1, 1, 3, 3);
        x.setArc(1, 0, 4, 4);
        x.slew(0, 10, 1);
        x.slew(1, 10, 1);
        return x;
    }

    static void type(CraneGuard x, String text) {
        for (int k = 0; k < text.length(); k++) {
            x.type(text.charAt(k));
        }
    }

    static void typeAnew(CraneGuard x, String text) {
        x.clearText();
        type(x, text);
    }

    /** A call that returns an error must change nothing: run it between two digests. */
    static void dueError(CraneGuard x, long digestBefore, String call, long got, long want) {
        Check.due(call, got, want);
        Check.due(call + ", then digest()", x.digest(), digestBefore);
    }
}
