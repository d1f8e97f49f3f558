/** Promises 11 to 16: targets, turning, the time, and what a crane needs. */
final class TurningTest {
    private TurningTest() {
    }

    static void run() {
        slew();
        slewErrors();
        stop();
        turnRound();
        turnRoundErrors();
        tick();
        tickByPriorities();
        tickSeesWhatWasDoneBefore();
        tickLocksTheNextAngle();
        tickErrors();
        greatestTime();
        time();
        needs();
    }

    // Promise 11
    private static void slew() {
        CraneGuard x = Sites.withCranes(10);
        Check.due("p11 slew(0, 28, 0), both as long", x.slew(0, 28, 0), 18);
        Check.due("p11 its way", x.crane(0, Sites.WAY), 1);
        Check.due("p11 slew(0, 29, 0)", x.slew(0, 29, 0), 17);
        Check.due("p11 its way", x.crane(0, Sites.WAY), -1);
        Check.due("p11 slew(0, 27, 0)", x.slew(0, 27, 0), 17);
        Check.due("p11 its way", x.crane(0, Sites.WAY), 1);
        Check.due("p11 slew(0, 9, 1)", x.slew(0, 9, 1), 35);
        Check.due("p11 slew(0, 9, -1)", x.slew(0, 9, -1), 1);
        Check.due("p11 slew(0, 11, -1)", x.slew(0, 11, -1), 35);
        Check.due("p11 its way", x.crane(0, Sites.WAY), -1);
        Check.due("p11 its target", x.crane(0, Sites.TARGET), 11);
        Check.due("p11 slew(0, 35, 0)", x.slew(0, 35, 0), 11);
        Check.due("p11 slew(0, 0, 0)", x.slew(0, 0, 0), 10);
        for (int way = -1; way <= 1; way++) {
            x.slew(0, 0, 0);
            Check.due("p11 slew to its own angle", x.slew(0, 10, way), 0);
            Check.due("p11 no target", x.crane(0, Sites.TARGET), Sites.NONE);
            Check.due("p11 no way", x.crane(0, Sites.WAY), 0);
        }
        Check.due("p11 undo()", x.undo(), 4);
        Check.due("p11 the target behind undo()", x.crane(0, Sites.TARGET), 0);
    }

    private static void slewErrors() {
        CraneGuard x = new CraneGuard();
        x.addCrane(0, 2, 0);
        x.addCrane(0, 1, 0);
        x.leave(1, true);
        x.slew(0, 5, 1);
        x.tick(1);
        long before = x.digest();
        for (int bad : new int[] {-1, 2, 4, Integer.MIN_VALUE, Integer.MAX_VALUE}) {
            Sites.dueError(x, before, "p11 of no crane", x.slew(bad, 5, 1), Sites.BAD_INDEX);
            Check.due("p11 BAD_INDEX before BAD_VALUE", x.slew(bad, 36, 2), Sites.BAD_INDEX);
        }
        for (int bad : new int[] {-1, 36, Integer.MIN_VALUE, Integer.MAX_VALUE}) {
            Sites.dueError(x, before, "p11 to a bad target", x.slew(0, bad, 1), Sites.BAD_VALUE);
        }
        for (int bad : new int[] {-2, 2, Integer.MIN_VALUE, Integer.MAX_VALUE}) {
            Sites.dueError(x, before, "p11 by a bad way", x.slew(0, 5, bad), Sites.BAD_VALUE);
        }
        Sites.dueError(x, before, "p11 on a step", x.slew(0, 5, 1), Sites.BAD_STATE);
        Sites.dueError(x, before, "p11 left to the wind", x.slew(1, 5, 1), Sites.BAD_STATE);
        Check.due("p11 errors are not recorded", x.undo(), 4);
        Check.due("p11 no more on a step", x.slew(0, 6, 1), 6);
    }

    // Promise 12
    private static void stop() {
        CraneGuard x = new CraneGuard();
        x.addCrane(0, 2, 0);
        Check.due("p12 stop(0) without a target", x.stop(0), Sites.NONE);
        Check.due("p12 it is recorded also then", x.undo(), 1);
        x.slew(0, 35, 0);
        Check.due("p12 stop(0)", x.stop(0), 35);
        Check.due("p12 no target", x.crane(0, Sites.TARGET), Sites.NONE);
        Check.due("p12 no way", x.crane(0, Sites.WAY), 0);
        Check.due("p12 undo()", x.undo(), 2);
        Check.due("p12 the target behind undo()", x.crane(0, Sites.TARGET), 35);
        x.tick(1);
        long before = x.digest();
        Sites.dueError(x, before, "p12 on a step", x.stop(0), Sites.BAD_STATE);
        for (int bad : new int[] {-1, 1, 4, Integer.MIN_VALUE, Integer.MAX_VALUE}) {
            Sites.dueError(x, before, "p12 of no crane", x.stop(bad), Sites.BAD_INDEX);
        }
        x.tick(1);
        x.leave(0, true);
        Check.due("p12 left to the wind", x.stop(0), Sites.NONE);
        Check.due("p12 it stays left", x.crane(0, Sites.LEFT), 1);
    }

    // Promise 13
    private static void turnRound() {
        CraneGuard x = Sites.withCranes(10);
        x.slew(0, 15, 1);
        Check.due("p13 turnRound(0)", x.turnRound(0), 31);
        Check.due("p13 its way", x.crane(0, Sites.WAY), -1);
        Check.due("p13 its target", x.crane(0, Sites.TARGET), 15);
        Check.due("p13 turnRound(0) back", x.turnRound(0), 5);
        Check.due("p13 its way", x.crane(0, Sites.WAY), 1);
        x.turnRound(0);
        x.tick(1);
        Check.due("p13 crane(0, 0)", x.crane(0, Sites.ANGLE), 9);
        Check.due("p13 turnRound(0) after a step", x.turnRound(0), 6);
        Check.due("p13 undo()", x.undo(), 4);
        Check.due("p13 its way behind undo()", x.crane(0, Sites.WAY), -1);
        x.slew(0, 27, 0);
        Check.due("p13 half a turn", x.turnRound(0), 18);
    }

    private static void turnRoundErrors() {
        CraneGuard x = new CraneGuard();
        x.addCrane(10, 3, 0);
        long before = x.digest();
        Sites.dueError(x, before, "p13 without a target", x.turnRound(0), Sites.BAD_STATE);
        for (int bad : new int[] {-1, 1, 4, Integer.MIN_VALUE, Integer.MAX_VALUE}) {
            Sites.dueError(x, before, "p13 of no crane", x.turnRound(bad), Sites.BAD_INDEX);
        }
        x.slew(0, 15, 1);
        x.tick(2);
        before = x.digest();
        Sites.dueError(x, before, "p13 on a step", x.turnRound(0), Sites.BAD_STATE);
        x.tick(1);
        Check.due("p13 behind the step", x.turnRound(0), 32);
        x.leave(0, true);
        Check.due("p13 left to the wind", x.turnRound(0), Sites.BAD_STATE);
    }

    // Promise 14
    private static void tick() {
        CraneGuard x = new CraneGuard();
        x.addCrane(34, 3, 0);
        x.slew(0, 1, 1);
        int[] angles = {34, 34, 35, 35, 35, 0, 0, 0, 1, 1};
        int[] progress = {1, 2, 0, 1, 2, 0, 1, 2, 0, 0};
        for (int k = 0; k < angles.length; k++) {
            Check.due("p14 tick(1)", x.tick(1), k + 1);
            Check.due("p14 angle at " + (k + 1), x.crane(0, Sites.ANGLE), angles[k]);
            Check.due("p14 progress at " + (k + 1), x.crane(0, Sites.PROGRESS), progress[k]);
        }
        Check.due("p14 no target any more", x.crane(0, Sites.TARGET), Sites.NONE);
        Check.due("p14 no way any more", x.crane(0, Sites.WAY), 0);
        Check.due("p14 steps", x.crane(0, Sites.STEPS), 3);
        x.slew(0, 34, -1);
        Check.due("p14 tick(9)", x.tick(9), 19);
        Check.due("p14 the other way across 0", x.crane(0, Sites.ANGLE), 34);
        Check.due("p14 it is recorded as one call", x.undo(), 4);
        Check.due("p14 time() behind undo()", x.time(), 10);
        Check.due("p14 crane(0, 0) behind undo()", x.crane(0, Sites.ANGLE), 1);
        Check.due("p14 tick(200)", x.tick(200), 210);
    }

    private static void tickByPriorities() {
        // Both want into zone 0 with their next step; the one that goes first has it.
        int[][] priorities = {{0, 0, 0}, {5, 5, 0}, {4, 5, 1}, {5, 4, 0}, {0, 9, 1}, {9, 0, 0}};
        for (int[] p : priorities) {
            CraneGuard x = Sites.withCranes(3, 3);
            x.setPriority(0, p[0]);
            x.setPriority(1, p[1]);
            x.setArc(0, 0, 4, 5);
            x.setArc(1, 0, 4, 5);
            x.slew(0, 9, 1);
            x.slew(1, 9, 1);
            x.tick(1);
            int first = p[2];
            Check.due("p14 the first one turns", x.crane(first, Sites.ANGLE), 4);
            Check.due("p14 the other one does not", x.crane(1 - first, Sites.ANGLE), 3);
            Check.due("p14 the other one waits", x.crane(1 - first, Sites.WAIT), 1);
            Check.due("p14 the first one does not wait", x.crane(first, Sites.WAIT), 0);
            x.tick(1);
            Check.due("p14 the other one still waits", x.crane(1 - first, Sites.WAIT), 2);
            x.tick(1);
            // The first one leaves the zone in this tick, and the other one goes behind it.
            Check.due("p14 the other one enters", x.crane(1 - first, Sites.ANGLE), 4);
            Check.due("p14 its wait stays", x.crane(1 - first, Sites.WAIT), 2);
        }
    }

    private static void tickSeesWhatWasDoneBefore() {
        // Crane 0 leaves the zone by the step that it ends; crane 1 sees that if it goes behind it only.
        for (int priorityOfSecond : new int[] {0, 9}) {
            CraneGuard x = Sites.withCranes(4, 3);
            x.setPriority(0, 5);
            x.setPriority(1, priorityOfSecond);
            x.setArc(0, 0, 4, 4);
            x.setArc(1, 0, 4, 4);
            x.slew(0, 9, 1);
            x.slew(1, 9, 1);
            x.tick(1);
            boolean behind = priorityOfSecond == 0;
            Check.due("p14 crane(0, 0)", x.crane(0, Sites.ANGLE), 5);
            Check.due("p14 crane(1, 0)", x.crane(1, Sites.ANGLE), behind ? 4 : 3);
            Check.due("p14 crane(1, 6)", x.crane(1, Sites.WAIT), behind ? 0 : 1);
        }
    }

    private static void tickLocksTheNextAngle() {
        CraneGuard x = new CraneGuard();
        x.addCrane(3, 5, 1);
        x.addCrane(3, 1, 0);
        x.setArc(0, 0, 4, 4);
        x.setArc(1, 0, 4, 4);
        x.slew(0, 9, 1);
        x.slew(1, 9, 1);
        x.tick(1);
        Check.due("p14 a crane on a step occupies the zone ahead", x.occupants(0), 1);
        Check.due("p14 the other one waits", x.crane(1, Sites.WAIT), 1);
        x.tick(8);
        Check.due("p14 it is still in the zone on its next step", x.occupants(0), 1);
        Check.due("p14 the other one waits", x.crane(1, Sites.WAIT), 9);
        x.tick(1);
        Check.due("p14 it has left the zone", x.crane(0, Sites.ANGLE), 5);
        Check.due("p14 the other one enters", x.occupants(0), 2);
        // On a step, a crane goes on also if the zone ahead has become another one's by an override.
        CraneGuard y = new CraneGuard();
        y.addCrane(3, 2, 0);
        y.addCrane(3, 1, 0);
        y.setArc(0, 0, 4, 4);
        y.setArc(1, 0, 4, 4);
        y.slew(0, 9, 1);
        y.slew(1, 9, 1);
        y.tick(1);
        Check.due("p14 override(1, 1)", y.override(1, 1), 1);
        y.stop(1);
        y.tick(1);
        Check.due("p14 the step is ended", y.crane(0, Sites.ANGLE), 4);
        Check.due("p14 without waiting", y.crane(0, Sites.WAIT), 0);
    }

    private static void tickErrors() {
        CraneGuard x = Sites.withCranes(3);
        x.slew(0, 9, 1);
        long before = x.digest();
        for (int bad : new int[] {0, -1, 201, Integer.MIN_VALUE, Integer.MAX_VALUE}) {
            Sites.dueError(x, before, "p14 tick(" + bad + ")", x.tick(bad), Sites.BAD_VALUE);
        }
        Check.due("p14 errors are not recorded", x.undo(), 1);
        CraneGuard none = new CraneGuard();
        Check.due("p14 without cranes", none.tick(200), 200);
    }

    private static void greatestTime() {
        CraneGuard x = new CraneGuard();
        for (int k = 0; k < 499; k++) {
            x.tick(200);
        }
        Check.due("p14 tick(199)", x.tick(199), 99999);
        long before = x.digest();
        Sites.dueError(x, before, "p14 tick(2) above the greatest time", x.tick(2), Sites.FULL);
        Check.due("p14 BAD_VALUE before FULL", x.tick(201), Sites.BAD_VALUE);
        Check.due("p14 tick(1) to the greatest time", x.tick(1), 100000);
        Check.due("p14 tick(1) above it", x.tick(1), Sites.FULL);
        x.addCrane(0, 5, 0);
        x.slew(0, 35, 1);
        Check.due("p19 allDone() knows no greatest time", x.allDone(), 175);
        Check.due("p20 done(0) knows no greatest time", x.done(0), 175);
        Check.due("p21 waits(0, 1000) knows no greatest time", x.waits(0, 1000), 0);
    }

    // Promise 15
    private static void time() {
        CraneGuard x = new CraneGuard();
        Check.due("p15 time()", x.time(), 0);
        x.tick(7);
        Check.due("p15 time()", x.time(), 7);
        x.tick(1);
        Check.due("p15 time()", x.time(), 8);
        x.addCrane(0, 1, 0);
        x.slew(0, 5, 1);
        x.override(0, 1);
        Check.due("p15 an override takes no time", x.time(), 8);
    }

    // Promise 16
    private static void needs() {
        CraneGuard x = new CraneGuard();
        x.addCrane(10, 4, 0);
        Check.due("p16 without a target", x.needs(0), 0);
        x.slew(0, 13, 1);
        Check.due("p16 needs(0)", x.needs(0), 12);
        x.slew(0, 13, -1);
        Check.due("p16 needs(0) the other way", x.needs(0), 132);
        x.slew(0, 7, 0);
        for (int left = 12; left > 0; left--) {
            Check.due("p16 needs(0) at " + x.time(), x.needs(0), left);
            x.tick(1);
        }
        Check.due("p16 at the target", x.needs(0), 0);
        Check.due("p16 it is there", x.crane(0, Sites.TARGET), Sites.NONE);
        for (int bad : new int[] {-1, 1, 4, Integer.MIN_VALUE, Integer.MAX_VALUE}) {
            Check.due("p16 needs(" + bad + ")", x.needs(bad), Sites.BAD_INDEX);
        }
        CraneGuard y = Sites.inCycle();
        Check.due("p16 as if it never waited", y.needs(0), 7);
    }
}
