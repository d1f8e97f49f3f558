/** Promises 22 to 27: the wind, cranes left to it, overrides and notes. */
final class WindAndOverridesTest {
    private WindAndOverridesTest() {
    }

    static void run() {
        setWind();
        turnsToTheWind();
        windStopsForNobody();
        leave();
        leaveErrors();
        leaveAgain();
        override();
        overrideToTheTarget();
        overrideErrors();
        notes();
        noteErrors();
        clearNotes();
    }

    // Promise 22
    private static void setWind() {
        CraneGuard x = new CraneGuard();
        Check.due("p22 setWind(35)", x.setWind(35), 0);
        Check.due("p22 setWind(0)", x.setWind(0), 35);
        Check.due("p22 setWind(7)", x.setWind(7), 0);
        Check.due("p22 setWind(7), the same", x.setWind(7), 7);
        Check.due("p22 undo()", x.undo(), 3);
        Check.due("p22 undo()", x.undo(), 2);
        long before = x.digest();
        for (int bad : new int[] {-1, 36, Integer.MIN_VALUE, Integer.MAX_VALUE}) {
            Sites.dueError(x, before, "p22 setWind(" + bad + ")", x.setWind(bad), Sites.BAD_VALUE);
        }
        Check.due("p22 setWind(1) behind undo()", x.setWind(1), 0);
    }

    private static void turnsToTheWind() {
        // From each angle: the shorter way, clockwise if both are as long, then it stays.
        for (int from = 0; from < 36; from++) {
            CraneGuard x = new CraneGuard();
            x.addCrane(from, 5, 0);
            x.setWind(20);
            x.leave(0, true);
            int clockwise = (20 - from + 36) % 36;
            int way = clockwise == 0 ? 0 : clockwise <= 18 ? 1 : -1;
            x.tick(1);
            Check.due("p14 to the wind from " + from, x.crane(0, Sites.ANGLE), (from + way + 36) % 36);
            x.tick(20);
            Check.due("p14 at the wind from " + from, x.crane(0, Sites.ANGLE), 20);
            Check.due("p14 no steps", x.crane(0, Sites.STEPS), 0);
            Check.due("p14 no wait", x.crane(0, Sites.WAIT), 0);
        }
    }

    private static void windStopsForNobody() {
        CraneGuard x = Sites.withCranes(3, 3);
        x.setArc(0, 0, 2, 2);
        x.setArc(1, 0, 5, 5);
        x.leave(0, true);
        x.slew(1, 9, 1);
        Check.due("p23 the crane left locks zone 0", x.occupants(0), 1);
        x.override(1, 1);
        x.override(1, 1);
        Check.due("p24 into the locked zone", x.conflicts(), 1);
        x.tick(1);
        Check.due("p14 the wind turns it also into a conflict", x.crane(0, Sites.ANGLE), 2);
        Check.due("p14 the other one goes out of the zone", x.crane(1, Sites.ANGLE), 6);
    }

    // Promise 23
    private static void leave() {
        CraneGuard x = Sites.withCranes(3, 20);
        x.setArc(0, 0, 10, 11);
        x.setArc(0, 5, 3, 3);
        x.slew(0, 9, 1);
        Check.due("p23 leave(0, true)", x.leave(0, true), 0);
        Check.due("p23 without a target", x.crane(0, Sites.TARGET), Sites.NONE);
        Check.due("p23 without a way", x.crane(0, Sites.WAY), 0);
        Check.due("p23 it is left", x.crane(0, Sites.LEFT), 1);
        Check.due("p23 it occupies its zones", x.crane(0, Sites.OCCUPIED), 33);
        Check.due("p23 occupants(0)", x.occupants(0), 1);
        x.tick(1);
        Check.due("p23 leave(0, false)", x.leave(0, false), 1);
        Check.due("p23 it stays at its angle", x.crane(0, Sites.ANGLE), 2);
        Check.due("p23 it is not left", x.crane(0, Sites.LEFT), 0);
        Check.due("p23 it occupies what is at its angle", x.crane(0, Sites.OCCUPIED), 0);
        x.tick(1);
        Check.due("p23 it turns no more", x.crane(0, Sites.ANGLE), 2);
        Check.due("p23 slew(0, 5, 1)", x.slew(0, 5, 1), 3);
        Check.due("p23 leave(0, false) again", x.leave(0, false), 0);
        Check.due("p23 the target stays", x.crane(0, Sites.TARGET), 5);
        Check.due("p23 undo() of a call that changed nothing", x.undo(), 4);
        Check.due("p23 undo()", x.undo(), 3);
        Check.due("p23 undo()", x.undo(), 2);
        Check.due("p23 undo()", x.undo(), 1);
        Check.due("p23 left again behind undo()", x.crane(0, Sites.LEFT), 1);
    }

    private static void leaveErrors() {
        CraneGuard x = new CraneGuard();
        x.addCrane(3, 2, 0);
        x.addCrane(20, 1, 0);
        x.setArc(0, 2, 10, 10);
        x.setArc(1, 2, 20, 21);
        long before = x.digest();
        Sites.dueError(x, before, "p23 another one is in its zone", x.leave(0, true), Sites.BAD_STATE);
        Check.due("p23 taking back is no error", x.leave(0, false), 0);
        Check.due("p23 the other one may be left", x.leave(1, true), 0);
        Sites.dueError(x, x.digest(), "p23 another one left locks its zone", x.leave(0, true), Sites.BAD_STATE);
        x.leave(1, false);
        x.removeArc(0, 2);
        x.slew(0, 9, 1);
        x.tick(1);
        before = x.digest();
        Sites.dueError(x, before, "p23 on a step", x.leave(0, true), Sites.BAD_STATE);
        Check.due("p23 taking back on a step", x.leave(0, false), 0);
        Check.due("p23 the progress stays", x.crane(0, Sites.PROGRESS), 1);
        x.tick(1);
        Check.due("p23 behind the step", x.leave(0, true), 0);
        for (int bad : new int[] {-1, 2, 4, Integer.MIN_VALUE, Integer.MAX_VALUE}) {
            before = x.digest();
            Sites.dueError(x, before, "p23 of no crane", x.leave(bad, true), Sites.BAD_INDEX);
            Sites.dueError(x, before, "p23 of no crane", x.leave(bad, false), Sites.BAD_INDEX);
        }
        // The next angle of a crane on a step counts as occupied.
        CraneGuard y = new CraneGuard();
        y.addCrane(3, 2, 0);
        y.addCrane(20, 1, 0);
        y.setArc(0, 1, 4, 4);
        y.setArc(1, 1, 0, 0);
        y.slew(0, 9, 1);
        y.tick(1);
        Check.due("p23 another one is going into its zone", y.leave(1, true), Sites.BAD_STATE);
    }

    private static void leaveAgain() {
        // A crane that is left already may be left again, also if another one has come into its zone.
        CraneGuard x = Sites.withCranes(3, 20);
        x.setArc(0, 0, 10, 10);
        x.setArc(1, 0, 21, 21);
        x.leave(0, true);
        x.slew(1, 25, 1);
        Check.due("p24 override(1, 4)", x.override(1, 4), 1);
        long before = x.digest();
        Check.due("p23 leave(0, true) again", x.leave(0, true), 1);
        Check.due("p23 it changes nothing", x.digest(), before);
        Check.due("p23 but it is recorded", x.undo(), 4);
        Check.due("p23 leave(0, false)", x.leave(0, false), 1);
        Check.due("p23 now it may not be left", x.leave(0, true), Sites.BAD_STATE);
    }

    // Promise 24
    private static void override() {
        CraneGuard x = Sites.inCycle();
        x.tick(4);
        Check.due("p24 override(1, 9)", x.override(1, 9), 1);
        Check.due("p24 a whole step", x.crane(1, Sites.ANGLE), 4);
        Check.due("p24 its steps", x.crane(1, Sites.STEPS), 1);
        Check.due("p24 its target stays", x.crane(1, Sites.TARGET), 10);
        Check.due("p24 its way stays", x.crane(1, Sites.WAY), 1);
        Check.due("p24 its wait stays", x.crane(1, Sites.WAIT), 4);
        Check.due("p24 no progress", x.crane(1, Sites.PROGRESS), 0);
        Check.due("p24 conflicts()", x.conflicts(), 1);
        Check.due("p24 time()", x.time(), 4);
        Check.due("p24 notes()", x.notes(), 1);
        int[] due = {4, 1, 9, 1};
        for (int what = 0; what < due.length; what++) {
            Check.due("p24 note(0, " + what + ")", x.note(0, what), due[what]);
        }
        Check.due("p24 undo()", x.undo(), 4);
        Check.due("p24 notes() behind undo()", x.notes(), 0);
        Check.due("p24 crane(1, 0) behind undo()", x.crane(1, Sites.ANGLE), 3);
        Check.due("p24 also if it may begin a step", Sites.withCranes(3).override(0, 1), Sites.BAD_STATE);
    }

    private static void overrideToTheTarget() {
        CraneGuard x = new CraneGuard();
        x.addCrane(1, 5, 0);
        x.setArc(0, 0, 35, 35);
        x.slew(0, 35, -1);
        Check.due("p24 override(0, 1)", x.override(0, 1), 0);
        Check.due("p24 at 0", x.crane(0, Sites.ANGLE), 0);
        Check.due("p24 override(0, 2)", x.override(0, 2), 0);
        Check.due("p24 at the target", x.crane(0, Sites.ANGLE), 35);
        Check.due("p24 no target any more", x.crane(0, Sites.TARGET), Sites.NONE);
        Check.due("p24 no way any more", x.crane(0, Sites.WAY), 0);
        Check.due("p24 no more then", x.override(0, 3), Sites.BAD_STATE);
        Check.due("p24 note(1, 2)", x.note(1, 2), 2);
    }

    private static void overrideErrors() {
        CraneGuard x = new CraneGuard();
        x.addCrane(3, 2, 0);
        long before = x.digest();
        Sites.dueError(x, before, "p24 without a target", x.override(0, 1), Sites.BAD_STATE);
        for (int bad : new int[] {-1, 1, 4, Integer.MIN_VALUE, Integer.MAX_VALUE}) {
            Sites.dueError(x, before, "p24 of no crane", x.override(bad, 1), Sites.BAD_INDEX);
            Check.due("p24 BAD_INDEX before BAD_VALUE", x.override(bad, 0), Sites.BAD_INDEX);
        }
        for (int bad : new int[] {0, -1, 10, Integer.MIN_VALUE, Integer.MAX_VALUE}) {
            Check.due("p24 BAD_VALUE before BAD_STATE", x.override(0, bad), Sites.BAD_VALUE);
        }
        x.slew(0, 9, 1);
        x.tick(1);
        before = x.digest();
        Sites.dueError(x, before, "p24 on a step", x.override(0, 1), Sites.BAD_STATE);
        Check.due("p24 errors are not recorded", x.undo(), 2);
        x.slew(0, 2, 1);
        for (int k = 0; k < 10; k++) {
            Check.due("p24 override(0, 1)", x.override(0, 1), 0);
        }
        before = x.digest();
        Sites.dueError(x, before, "p24 an eleventh note", x.override(0, 1), Sites.FULL);
        Check.due("p24 BAD_VALUE before FULL", x.override(0, 0), Sites.BAD_VALUE);
        x.stop(0);
        Check.due("p24 BAD_STATE before FULL", x.override(0, 1), Sites.BAD_STATE);
        x.slew(0, 2, 1);
        x.clearNotes();
        Check.due("p24 there is room again", x.override(0, 1), 0);
    }

    // Promise 25 and 26
    private static void notes() {
        CraneGuard x = Sites.withCranes(3, 3, 20);
        x.setArc(1, 4, 2, 2);
        x.setArc(2, 4, 20, 20);
        x.setArc(1, 5, 2, 2);
        x.setArc(2, 5, 20, 20);
        x.slew(0, 30, 1);
        x.slew(1, 10, -1);
        for (int k = 0; k < 9; k++) {
            Check.due("p25 notes()", x.notes(), k);
            x.override(0, k + 1);
            x.tick(1);
        }
        Check.due("p24 override(1, 7)", x.override(1, 7), 48);
        Check.due("p25 notes()", x.notes(), 10);
        for (int k = 0; k < 9; k++) {
            Check.due("p26 note(" + k + ", 0)", x.note(k, 0), k);
            Check.due("p26 note(" + k + ", 1)", x.note(k, 1), 0);
            Check.due("p26 note(" + k + ", 2)", x.note(k, 2), k + 1);
            Check.due("p26 note(" + k + ", 3)", x.note(k, 3), 0);
        }
        Check.due("p26 note(9, 0)", x.note(9, 0), 9);
        Check.due("p26 note(9, 1)", x.note(9, 1), 1);
        Check.due("p26 note(9, 2)", x.note(9, 2), 7);
        Check.due("p26 note(9, 3)", x.note(9, 3), 48);
        x.tick(5);
        Check.due("p26 a note keeps what was", x.note(9, 0), 9);
    }

    private static void noteErrors() {
        CraneGuard x = Sites.withCranes(3);
        Check.due("p26 without notes", x.note(0, 0), Sites.BAD_INDEX);
        x.slew(0, 30, 1);
        x.override(0, 1);
        x.override(0, 2);
        for (int bad : new int[] {-1, 2, 10, Integer.MIN_VALUE, Integer.MAX_VALUE}) {
            Check.due("p26 note(" + bad + ", 0)", x.note(bad, 0), Sites.BAD_INDEX);
            Check.due("p26 BAD_INDEX before BAD_VALUE", x.note(bad, 4), Sites.BAD_INDEX);
        }
        for (int bad : new int[] {-1, 4, Integer.MIN_VALUE, Integer.MAX_VALUE}) {
            Check.due("p26 note(1, " + bad + ")", x.note(1, bad), Sites.BAD_VALUE);
        }
        Check.due("p26 note(1, 2)", x.note(1, 2), 2);
    }

    // Promise 27
    private static void clearNotes() {
        CraneGuard x = Sites.withCranes(3);
        Check.due("p27 without notes", x.clearNotes(), 0);
        Check.due("p27 it is recorded also then", x.undo(), 1);
        x.slew(0, 30, 1);
        x.override(0, 1);
        x.override(0, 2);
        Check.due("p27 clearNotes()", x.clearNotes(), 2);
        Check.due("p27 notes()", x.notes(), 0);
        Check.due("p27 note(0, 0)", x.note(0, 0), Sites.BAD_INDEX);
        Check.due("p27 undo()", x.undo(), 4);
        Check.due("p27 notes() behind undo()", x.notes(), 2);
        Check.due("p27 note(1, 2) behind undo()", x.note(1, 2), 2);
        x.clearNotes();
        x.override(0, 5);
        Check.due("p27 numbers from 0 anew", x.note(0, 2), 5);
        Check.due("p27 notes()", x.notes(), 1);
    }
}
