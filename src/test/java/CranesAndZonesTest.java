/** Promises 1 to 10: the new object, cranes, arcs, occupants and conflicts. */
final class CranesAndZonesTest {
    private CranesAndZonesTest() {
    }

    static void run() {
        newObject();
        addCrane();
        addCraneErrors();
        eachCraneHasItsOwn();
        setPriority();
        setArc();
        setArcErrors();
        setArcAndConflicts();
        setArcOfOthersOnStep();
        removeArc();
        cranes();
        crane();
        arc();
        occupants();
        conflicts();
    }

    // Promise 1
    private static void newObject() {
        CraneGuard x = new CraneGuard();
        Check.due("p1 cranes()", x.cranes(), 0);
        Check.due("p1 time()", x.time(), 0);
        Check.due("p1 notes()", x.notes(), 0);
        Check.due("p1 conflicts()", x.conflicts(), 0);
        Check.due("p1 cycle()", x.cycle(), 0);
        Check.due("p1 allDone()", x.allDone(), 0);
        Check.due("p1 undo()", x.undo(), Sites.BAD_STATE);
        Check.due("p1 textFault()", x.textFault(), 0);
        Check.due("p1 clearText()", x.clearText(), 0);
        Check.due("p1 setWind(5)", x.setWind(5), 0);
        CraneGuard y = Sites.withCranes(0, 0, 0, 0);
        for (int crane = 0; crane < 4; crane++) {
            for (int zone = 0; zone < 6; zone++) {
                Check.due("p1 arc", y.arc(crane, zone, false), Sites.NONE);
            }
        }
    }

    // Promise 2
    private static void addCrane() {
        CraneGuard x = new CraneGuard();
        Check.due("p2 addCrane(35, 5, 9)", x.addCrane(35, 5, 9), 0);
        Check.due("p2 addCrane(0, 1, 0)", x.addCrane(0, 1, 0), 1);
        Check.due("p2 addCrane(7, 3, 4)", x.addCrane(7, 3, 4), 2);
        Check.due("p2 addCrane(7, 3, 4)", x.addCrane(7, 3, 4), 3);
        int[] due = {7, 3, 4, Sites.NONE, 0, 0, 0, 0, 0, 0};
        for (int what = 0; what < due.length; what++) {
            Check.due("p2 crane(2, " + what + ")", x.crane(2, what), due[what]);
        }
        Check.due("p2 crane(0, 0)", x.crane(0, Sites.ANGLE), 35);
        Check.due("p2 crane(0, 1)", x.crane(0, Sites.PACE), 5);
        Check.due("p2 crane(0, 2)", x.crane(0, Sites.PRIORITY), 9);
        for (int zone = 0; zone < 6; zone++) {
            Check.due("p2 arc", x.arc(3, zone, true), Sites.NONE);
        }
        Check.due("p2 undo()", x.undo(), 3);
        Check.due("p2 cranes() behind undo()", x.cranes(), 3);
        Check.due("p2 addCrane(9, 2, 1) anew", x.addCrane(9, 2, 1), 3);
        Check.due("p2 crane(3, 0)", x.crane(3, Sites.ANGLE), 9);
    }

    private static void addCraneErrors() {
        CraneGuard x = new CraneGuard();
        int[][] bad = {{-1, 1, 0}, {36, 1, 0}, {0, 0, 0}, {0, 6, 0}, {0, -1, 0}, {0, 1, -1}, {0, 1, 10}};
        for (int[] b : bad) {
            Check.due("p2 addCrane of bad values", x.addCrane(b[0], b[1], b[2]), Sites.BAD_VALUE);
        }
        for (int far : Sites.FAR) {
            Check.due("p2 addCrane(far, 1, 0)", x.addCrane(far, 1, 0), Sites.BAD_VALUE);
            Check.due("p2 addCrane(0, far, 0)", x.addCrane(0, far, 0), Sites.BAD_VALUE);
            Check.due("p2 addCrane(0, 1, far)", x.addCrane(0, 1, far), Sites.BAD_VALUE);
        }
        Check.due("p2 undo() after errors", x.undo(), Sites.BAD_STATE);
        CraneGuard full = Sites.withCranes(0, 1, 2, 3);
        Sites.dueError(full, full.digest(), "p2 a fifth crane", full.addCrane(0, 1, 0), Sites.FULL);
        Check.due("p2 BAD_VALUE before FULL", full.addCrane(36, 1, 0), Sites.BAD_VALUE);
        Check.due("p2 BAD_VALUE before FULL", full.addCrane(0, 0, 0), Sites.BAD_VALUE);
        Check.due("p2 BAD_VALUE before FULL", full.addCrane(0, 1, 10), Sites.BAD_VALUE);
    }

    // Each crane keeps its numbers apart from those of the others.
    private static void eachCraneHasItsOwn() {
        CraneGuard x = new CraneGuard();
        for (int crane = 0; crane < 4; crane++) {
            x.addCrane(10 * crane, 1 + crane, 2 * crane);
        }
        for (int crane = 0; crane < 4; crane++) {
            Check.due("p11 slew(" + crane + ", ..)", x.slew(crane, 10 * crane + 3, 1), 3);
            Check.due("p3 setPriority(" + crane + ", 9)", x.setPriority(crane, 9), 2 * crane);
            Check.due("p4 setArc(" + crane + ", ..)", x.setArc(crane, crane, 35, 35), 1);
            Check.due("p13 turnRound(" + crane + ")", x.turnRound(crane), 33);
            Check.due("p13 its way", x.crane(crane, Sites.WAY), -1);
            Check.due("p12 stop(" + crane + ")", x.stop(crane), 10 * crane + 3);
        }
        for (int crane = 0; crane < 4; crane++) {
            Check.due("p23 leave(" + crane + ", true)", x.leave(crane, true), 0);
            Check.due("p7 its zones", x.crane(crane, Sites.OCCUPIED), 1 << crane);
        }
        x.setWind(1);
        x.tick(1);
        int[] angles = {1, 9, 21, 31};
        for (int crane = 0; crane < 4; crane++) {
            Check.due("p14 crane " + crane + " turned to the wind", x.crane(crane, Sites.ANGLE), angles[crane]);
            Check.due("p5 removeArc(" + crane + ", ..)", x.removeArc(crane, crane), 1);
            Check.due("p7 its zones", x.crane(crane, Sites.OCCUPIED), 0);
        }
    }

    // Promise 3
    private static void setPriority() {
        CraneGuard x = new CraneGuard();
        x.addCrane(0, 1, 7);
        Check.due("p3 setPriority(0, 9)", x.setPriority(0, 9), 7);
        Check.due("p3 setPriority(0, 0)", x.setPriority(0, 0), 9);
        Check.due("p3 crane(0, 2)", x.crane(0, Sites.PRIORITY), 0);
        Check.due("p3 setPriority(0, 0), the same", x.setPriority(0, 0), 0);
        Check.due("p3 undo()", x.undo(), 3);
        Check.due("p3 undo()", x.undo(), 2);
        Check.due("p3 crane(0, 2) behind undo()", x.crane(0, Sites.PRIORITY), 9);
        long before = x.digest();
        Sites.dueError(x, before, "p3 setPriority(1, 0)", x.setPriority(1, 0), Sites.BAD_INDEX);
        Sites.dueError(x, before, "p3 setPriority(-1, 0)", x.setPriority(-1, 0), Sites.BAD_INDEX);
        Sites.dueError(x, before, "p3 setPriority(0, -1)", x.setPriority(0, -1), Sites.BAD_VALUE);
        Sites.dueError(x, before, "p3 setPriority(0, 10)", x.setPriority(0, 10), Sites.BAD_VALUE);
        Check.due("p3 setPriority(4, 10)", x.setPriority(4, 10), Sites.BAD_INDEX);
        for (int far : Sites.FAR) {
            Check.due("p3 setPriority(far, 0)", x.setPriority(far, 0), Sites.BAD_INDEX);
            Check.due("p3 setPriority(0, far)", x.setPriority(0, far), Sites.BAD_VALUE);
        }
        Check.due("p3 errors are not recorded", x.undo(), 1);
    }

    // Promise 4
    private static void setArc() {
        CraneGuard x = Sites.withCranes(10, 20);
        Check.due("p4 setArc(0, 0, 5, 5)", x.setArc(0, 0, 5, 5), 1);
        Check.due("p4 setArc(0, 0, 0, 35)", x.setArc(0, 0, 0, 35), 36);
        Check.due("p4 setArc(0, 0, 6, 5)", x.setArc(0, 0, 6, 5), 36);
        Check.due("p4 setArc(0, 0, 35, 0)", x.setArc(0, 0, 35, 0), 2);
        Check.due("p4 arc(0, 0, false)", x.arc(0, 0, false), 35);
        Check.due("p4 arc(0, 0, true)", x.arc(0, 0, true), 0);
        Check.due("p4 setArc(1, 5, 30, 3)", x.setArc(1, 5, 30, 3), 10);
        Check.due("p4 arc(1, 5, false)", x.arc(1, 5, false), 30);
        Check.due("p4 arc(1, 4, false)", x.arc(1, 4, false), Sites.NONE);
        Check.due("p4 arc(0, 5, false)", x.arc(0, 5, false), Sites.NONE);
        Check.due("p4 undo()", x.undo(), 4);
        Check.due("p4 arc(1, 5, false) behind undo()", x.arc(1, 5, false), Sites.NONE);
        Check.due("p4 setArc(0, 0, 35, 0), the same", x.setArc(0, 0, 35, 0), 2);
        Check.due("p4 setArc(0, 0, 10, 10)", x.setArc(0, 0, 10, 10), 1);
        Check.due("p4 one crane is no conflict", x.conflicts(), 0);
    }

    private static void setArcErrors() {
        CraneGuard x = Sites.withCranes(10, 20);
        x.leave(1, true);
        long before = x.digest();
        int[][] badIndex = {{2, 0}, {-1, 0}, {4, 0}, {0, -1}, {0, 6}};
        for (int[] b : badIndex) {
            Sites.dueError(x, before, "p4 setArc of a bad index", x.setArc(b[0], b[1], 0, 0), Sites.BAD_INDEX);
            Check.due("p4 BAD_INDEX before BAD_VALUE", x.setArc(b[0], b[1], 36, 36), Sites.BAD_INDEX);
        }
        int[][] badValue = {{-1, 0}, {36, 0}, {0, -1}, {0, 36}};
        for (int[] b : badValue) {
            Sites.dueError(x, before, "p4 setArc of a bad value", x.setArc(0, 0, b[0], b[1]), Sites.BAD_VALUE);
            Check.due("p4 BAD_VALUE before BAD_STATE", x.setArc(1, 0, b[0], b[1]), Sites.BAD_VALUE);
        }
        for (int far : Sites.FAR) {
            Check.due("p4 setArc(far, 0, 0, 0)", x.setArc(far, 0, 0, 0), Sites.BAD_INDEX);
            Check.due("p4 setArc(0, far, 0, 0)", x.setArc(0, far, 0, 0), Sites.BAD_INDEX);
            Check.due("p4 setArc(0, 0, far, 0)", x.setArc(0, 0, far, 0), Sites.BAD_VALUE);
            Check.due("p4 setArc(0, 0, 0, far)", x.setArc(0, 0, 0, far), Sites.BAD_VALUE);
        }
        Sites.dueError(x, before, "p4 setArc of a crane left", x.setArc(1, 0, 0, 0), Sites.BAD_STATE);
        x.leave(1, false);
        Check.due("p4 setArc of a crane taken back", x.setArc(1, 0, 0, 0), 1);
    }

    private static void setArcAndConflicts() {
        CraneGuard x = Sites.withCranes(10, 20, 30);
        x.setArc(0, 2, 10, 10);
        long before = x.digest();
        Sites.dueError(x, before, "p4 a conflict would be new", x.setArc(1, 2, 19, 20), Sites.BAD_STATE);
        Check.due("p4 beside the angle", x.setArc(1, 2, 19, 19), 1);
        Check.due("p4 another zone", x.setArc(1, 3, 20, 20), 1);
        // An override makes a conflict of zone 2; then also a third crane may come into it.
        x.slew(1, 19, -1);
        Check.due("p4 override(1, 1)", x.override(1, 1), 4);
        Check.due("p4 the zone is a conflict now", x.setArc(2, 2, 29, 31), 3);
        Check.due("p4 occupants(2)", x.occupants(2), 7);
        Check.due("p4 it stays a conflict", x.setArc(2, 2, 0, 0), 1);
        Check.due("p4 it is none then", x.setArc(1, 2, 0, 0), 1);
        Check.due("p4 conflicts()", x.conflicts(), 0);
        Check.due("p4 it would be new again", x.setArc(1, 2, 19, 19), Sites.BAD_STATE);
    }

    private static void setArcOfOthersOnStep() {
        CraneGuard x = new CraneGuard();
        x.addCrane(10, 3, 0);
        x.addCrane(20, 3, 0);
        x.setArc(0, 0, 11, 11);
        x.slew(0, 15, 1);
        Check.due("p4 not on a step yet", x.setArc(1, 0, 20, 20), 1);
        x.undo();
        x.tick(1);
        Check.due("p4 the next angle counts on a step", x.setArc(1, 0, 20, 20), Sites.BAD_STATE);
        Check.due("p4 the zone of the crane's own next angle", x.setArc(0, 1, 11, 12), 2);
        Check.due("p4 crane(0, 8)", x.crane(0, Sites.OCCUPIED), 3);
        CraneGuard left = Sites.withCranes(0, 5);
        left.setArc(0, 4, 18, 18);
        left.leave(0, true);
        Check.due("p4 a zone locked by a crane left", left.setArc(1, 4, 5, 5), Sites.BAD_STATE);
        Check.due("p4 a zone locked, but not entered", left.setArc(1, 4, 6, 6), 1);
    }

    // Promise 5
    private static void removeArc() {
        CraneGuard x = Sites.withCranes(10, 20);
        x.setArc(0, 1, 10, 12);
        x.setArc(0, 2, 0, 0);
        Check.due("p5 removeArc(0, 1)", x.removeArc(0, 1), 1);
        Check.due("p5 removeArc(0, 1) again", x.removeArc(0, 1), 0);
        Check.due("p5 arc(0, 1, false)", x.arc(0, 1, false), Sites.NONE);
        Check.due("p5 arc(0, 1, true)", x.arc(0, 1, true), Sites.NONE);
        Check.due("p5 arc(0, 2, true)", x.arc(0, 2, true), 0);
        Check.due("p5 crane(0, 8)", x.crane(0, Sites.OCCUPIED), 0);
        Check.due("p5 an arc at the angle 0", x.removeArc(0, 2), 1);
        Check.due("p5 undo()", x.undo(), 4);
        Check.due("p5 undo() of a call that changed nothing", x.undo(), 3);
        Check.due("p5 undo()", x.undo(), 2);
        Check.due("p5 arc(0, 1, true) behind undo()", x.arc(0, 1, true), 12);
        int[][] badIndex = {{2, 0}, {-1, 0}, {4, 0}, {0, -1}, {0, 6}, {Integer.MIN_VALUE, 0},
            {Integer.MAX_VALUE, 0}, {0, Integer.MIN_VALUE}, {0, Integer.MAX_VALUE}};
        long before = x.digest();
        for (int[] b : badIndex) {
            Sites.dueError(x, before, "p5 removeArc of a bad index", x.removeArc(b[0], b[1]), Sites.BAD_INDEX);
        }
        x.leave(0, true);
        Check.due("p5 of a crane left", x.removeArc(0, 1), 1);
        Check.due("p5 crane(0, 8) of a crane left", x.crane(0, Sites.OCCUPIED), 4);
    }

    // Promise 6
    private static void cranes() {
        CraneGuard x = new CraneGuard();
        for (int many = 0; many <= 4; many++) {
            Check.due("p6 cranes()", x.cranes(), many);
            x.addCrane(0, 1, 0);
        }
        Check.due("p6 cranes() when full", x.cranes(), 4);
        x.undo();
        Check.due("p6 cranes() behind undo()", x.cranes(), 3);
    }

    // Promise 7
    private static void crane() {
        CraneGuard x = new CraneGuard();
        x.addCrane(34, 2, 3);
        x.addCrane(5, 1, 0);
        x.setArc(0, 0, 35, 1);
        x.setArc(0, 3, 33, 34);
        x.setArc(0, 5, 10, 20);
        x.slew(0, 2, 1);
        x.tick(1);
        int[] onStep = {34, 2, 3, 2, 1, 1, 0, 0, 1 + 8, 0};
        dueCrane("p7 on a step", x, 0, onStep);
        x.tick(1);
        int[] behind = {35, 2, 3, 2, 1, 0, 0, 0, 1, 1};
        dueCrane("p7 behind the step", x, 0, behind);
        x.tick(6);
        int[] there = {2, 2, 3, Sites.NONE, 0, 0, 0, 0, 0, 4};
        dueCrane("p7 at the target", x, 0, there);
        x.leave(0, true);
        int[] left = {2, 2, 3, Sites.NONE, 0, 0, 0, 1, 1 + 8 + 32, 4};
        dueCrane("p7 left to the wind", x, 0, left);
        x.tick(1);
        Check.due("p7 a turn to the wind is no step", x.crane(0, Sites.STEPS), 4);
        Check.due("p7 crane(0, 0)", x.crane(0, Sites.ANGLE), 1);
        x.slew(1, 4, -1);
        Check.due("p7 way -1", x.crane(1, Sites.WAY), -1);
        x.override(1, 1);
        Check.due("p7 an override is a step", x.crane(1, Sites.STEPS), 1);
        for (int bad : new int[] {2, 3, 4, -1, Integer.MIN_VALUE, Integer.MAX_VALUE}) {
            Check.due("p7 crane(" + bad + ", 0)", x.crane(bad, 0), Sites.BAD_INDEX);
            Check.due("p7 crane(" + bad + ", 10)", x.crane(bad, 10), Sites.BAD_INDEX);
        }
        for (int bad : new int[] {10, -1, Integer.MIN_VALUE, Integer.MAX_VALUE, 1 << 30, -(1 << 30)}) {
            Check.due("p7 crane(0, " + bad + ")", x.crane(0, bad), Sites.BAD_VALUE);
        }
    }

    private static void dueCrane(String when, CraneGuard x, int crane, int[] due) {
        for (int what = 0; what < due.length; what++) {
            Check.due(when + ": crane(" + crane + ", " + what + ")", x.crane(crane, what), due[what]);
        }
    }

    // Promise 8
    private static void arc() {
        CraneGuard x = Sites.withCranes(10, 20);
        x.setArc(1, 5, 30, 4);
        Check.due("p8 arc(1, 5, false)", x.arc(1, 5, false), 30);
        Check.due("p8 arc(1, 5, true)", x.arc(1, 5, true), 4);
        Check.due("p8 arc(0, 5, false)", x.arc(0, 5, false), Sites.NONE);
        Check.due("p8 arc(0, 5, true)", x.arc(0, 5, true), Sites.NONE);
        int[][] badIndex = {{2, 0}, {-1, 0}, {4, 0}, {0, -1}, {0, 6}, {Integer.MIN_VALUE, 0},
            {Integer.MAX_VALUE, 0}, {0, Integer.MIN_VALUE}, {0, Integer.MAX_VALUE}};
        for (int[] b : badIndex) {
            Check.due("p8 arc of a bad index", x.arc(b[0], b[1], true), Sites.BAD_INDEX);
            Check.due("p8 arc of a bad index", x.arc(b[0], b[1], false), Sites.BAD_INDEX);
        }
    }

    // Promise 9
    private static void occupants() {
        CraneGuard x = Sites.withCranes(0, 0, 0, 0);
        // Across the angle 0: each angle of the turn is tried.
        x.setArc(3, 5, 34, 1);
        for (int angle = 0; angle < 36; angle++) {
            boolean in = angle >= 34 || angle <= 1;
            x.slew(3, angle, 0);
            x.tick(36);
            Check.due("p9 occupants(5) at " + angle, x.occupants(5), in ? 8 : 0);
        }
        x.setArc(3, 5, 7, 9);
        for (int angle = 0; angle < 36; angle++) {
            boolean in = angle >= 7 && angle <= 9;
            x.slew(3, angle, 0);
            x.tick(36);
            Check.due("p9 occupants(5) at " + angle, x.occupants(5), in ? 8 : 0);
        }
        x.setArc(1, 5, 0, 0);
        x.slew(2, 7, 1);
        x.setArc(2, 5, 1, 1);
        Check.due("p9 occupants(5) before", x.occupants(5), 2);
        x.override(2, 1);
        Check.due("p9 occupants(5) by two", x.occupants(5), 6);
        Check.due("p9 occupants(4)", x.occupants(4), 0);
        for (int bad : new int[] {-1, 6, Integer.MIN_VALUE, Integer.MAX_VALUE}) {
            Check.due("p9 occupants(" + bad + ")", x.occupants(bad), Sites.BAD_INDEX);
        }
    }

    // Promise 10
    private static void conflicts() {
        CraneGuard x = Sites.withCranes(10, 20, 30);
        x.setArc(0, 1, 10, 10);
        x.setArc(0, 5, 10, 10);
        x.setArc(1, 1, 21, 21);
        x.setArc(1, 5, 21, 22);
        x.setArc(2, 3, 30, 30);
        Check.due("p10 conflicts()", x.conflicts(), 0);
        x.slew(1, 25, 1);
        x.override(1, 1);
        Check.due("p10 conflicts() of two zones", x.conflicts(), 2 + 32);
        x.override(1, 1);
        Check.due("p10 conflicts() of one zone", x.conflicts(), 32);
        x.tick(1);
        Check.due("p10 conflicts() of none", x.conflicts(), 0);
    }
}
