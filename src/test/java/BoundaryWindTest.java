/** The boundary cases of the wind, of overrides and of notes: the promises 22 to 27. */
final class BoundaryWindTest {
    private static final String OVERRIDES = "Overrides";

    private BoundaryWindTest() {
    }

    static void run() {
        setWind();
        leave();
        leaveOnAStep();
        leaveInAZoneOfAnother();
        leaveAgain();
        takenBackInAConflict();
        overrideAtOnce();
        overrideAlsoIfItMayNot();
        overrideAcrossZero();
        overrideToItsTarget();
        overrideRefused();
        overrideReasons();
        overrideConflicts();
        tenNotes();
        overrideWhenFull();
        notes();
        noteRanges();
        noteKeepsWhatWas();
        clearNotes();
    }

    private static void setWind() {
        Doc.says(22, "Sets the angle of the wind.");
        Doc.says(22, "- `angle`: 0 to 35");
        Doc.says(22, "BAD_VALUE if angle is out of range.");
        Boundary.range("angle", Boundary::busy, CraneGuard::setWind, 0, 35, Sites.BAD_VALUE);
        Doc.says(22, "Returns the previous angle;");
        CraneGuard x = new CraneGuard();
        int[] angles = {35, 0, 0, 18, 18, 35};
        for (int k = 0; k < angles.length; k++) {
            Check.due("setWind()", x.setWind(angles[k]), k == 0 ? 0 : angles[k - 1]);
        }
        CraneGuard turning = Sites.withCranes(17);
        turning.setWind(35);
        turning.leave(0, true);
        turning.tick(1);
        Check.due("18 steps from the wind", turning.crane(0, Sites.ANGLE), 18);
        turning.setWind(0);
        turning.tick(1);
        Check.due("18 steps from the new wind", turning.crane(0, Sites.ANGLE), 19);
        turning.setWind(0);
        turning.tick(17);
        Check.due("across 35 to 0", turning.crane(0, Sites.ANGLE), 0);
    }

    private static void leave() {
        Doc.says(23, "Leaves a crane to the wind, without a target, or takes it back (it stays at its angle then).");
        Doc.says(23, "- `left`: whether it is left to the wind");
        Doc.says(23, "Returns 1 if it was before, else 0;");
        CraneGuard x = Sites.withCranes(5);
        x.slew(0, 20, 1);
        Check.due("leave(0, false) of a crane that is not left", x.leave(0, false), 0);
        Check.due("its target stays", x.crane(0, Sites.TARGET), 20);
        Check.due("leave(0, true)", x.leave(0, true), 0);
        Check.due("its target", x.crane(0, Sites.TARGET), Sites.NONE);
        Check.due("leave(0, true) again", x.leave(0, true), 1);
        x.tick(2);
        Check.due("leave(0, false)", x.leave(0, false), 1);
        Check.due("leave(0, false) again", x.leave(0, false), 0);
        x.tick(9);
        Check.due("it stays at its angle", x.crane(0, Sites.ANGLE), 3);
        Check.due("it has no target then", x.crane(0, Sites.TARGET), Sites.NONE);
    }

    private static void leaveOnAStep() {
        Doc.says(23, "BAD_STATE if it is to be left to the wind, was not, and is on a step,");
        Boundary.refused("leave(1, true)", Boundary::busy, x -> x.leave(1, true), Sites.BAD_STATE);
        Check.due("leave(1, false) on a step", Boundary.busy().leave(1, false), 0);
        CraneGuard x = Boundary.busy();
        x.tick(1);
        Check.due("leave(1, true) on the step's last tick", x.leave(1, true), Sites.BAD_STATE);
        x.tick(1);
        Check.due("leave(1, true) behind the step", x.leave(1, true), 0);
    }

    private static void leaveInAZoneOfAnother() {
        Doc.says(23, "or another crane occupies a zone in which it has an arc.");
        Boundary.refused("leave(0, true)", Boundary::busy, x -> x.leave(0, true), Sites.BAD_STATE);
        Boundary.refused("leave(3, true)", Boundary::busy, x -> x.leave(3, true), Sites.BAD_STATE);
        Check.due("leave(0, false) there", Boundary.busy().leave(0, false), 0);
        for (int zone = 0; zone < 6; zone++) {
            for (int crane = 0; crane < 4; crane++) {
                CraneGuard x = Sites.withCranes(10, 10, 10, 10);
                x.setArc(crane, zone, 20, 20);
                int other = (crane + 1) % 4;
                x.setArc(other, zone, 11, 11);
                Check.due("leave() while the other one is beside it", x.leave(crane, true), 0);
                x.undo();
                x.setArc(other, zone, 10, 10);
                Check.due("leave() while the other one is in it", x.leave(crane, true), Sites.BAD_STATE);
                Check.due("leave() of the one that is in it", x.leave(other, true), 0);
                Check.due("leave() while the other one is left", x.leave(crane, true), Sites.BAD_STATE);
                x.removeArc(crane, zone);
                Check.due("leave() without an arc there", x.leave(crane, true), 0);
            }
        }
        // Its own occupying is no hindrance.
        CraneGuard alone = Sites.withCranes(10);
        alone.setArc(0, 0, 10, 10);
        Check.due("leave() in its own zone", alone.leave(0, true), 0);
    }

    private static void leaveAgain() {
        Doc.says(23, "was not,");
        CraneGuard x = Sites.withCranes(10, 20);
        x.setArc(0, 0, 10, 10);
        x.setArc(1, 0, 21, 21);
        x.leave(0, true);
        x.slew(1, 25, 1);
        x.override(1, 1);
        Check.due("conflicts()", x.conflicts(), 1);
        Check.due("leave(0, true) of a crane that was left", x.leave(0, true), 1);
        x.leave(0, false);
        Check.due("leave(0, true) of a crane that was not", x.leave(0, true), Sites.BAD_STATE);
    }

    private static void takenBackInAConflict() {
        Doc.says(23, "or takes it back");
        CraneGuard x = Sites.withCranes(10, 20);
        x.setArc(0, 0, 10, 10);
        x.setArc(1, 0, 21, 21);
        x.leave(0, true);
        x.slew(1, 25, 1);
        x.override(1, 1);
        Check.due("leave(0, false) in a conflict", x.leave(0, false), 1);
        Check.due("conflicts() then", x.conflicts(), 1);
        x.undo();
        x.tick(1);
        Check.due("leave(0, false) beside its arc", x.leave(0, false), 1);
        Check.due("conflicts() then", x.conflicts(), 0);
    }

    private static void overrideAtOnce() {
        Doc.says(OVERRIDES, "An override lets a crane with a target, which is on no step, do a whole step at once,");
        Doc.says(24, "Overrides.");
        for (int pace = 1; pace <= 5; pace++) {
            for (int way : new int[] {1, -1}) {
                CraneGuard x = new CraneGuard();
                x.addCrane(18, pace, 0);
                x.slew(0, 0, way);
                for (int steps = 1; steps <= 3; steps++) {
                    x.override(0, 1);
                    Check.due("its angle", x.crane(0, Sites.ANGLE), 18 + steps * way);
                    Check.due("its progress", x.crane(0, Sites.PROGRESS), 0);
                    Check.due("its steps", x.crane(0, Sites.STEPS), steps);
                }
                Check.due("time()", x.time(), 0);
                Check.due("its target", x.crane(0, Sites.TARGET), 0);
            }
        }
    }

    private static void overrideAlsoIfItMayNot() {
        Doc.says(OVERRIDES, "also if it may not;");
        CraneGuard x = Boundary.busy();
        Check.due("it may not begin a step", x.blocker(3), 2);
        Check.due("override(3, 1)", x.override(3, 1), 1);
        Check.due("its angle", x.crane(3, Sites.ANGLE), 31);
        Check.due("its wait", x.crane(3, Sites.WAIT), 1);
        CraneGuard free = Sites.withCranes(3);
        free.slew(0, 9, 1);
        Check.due("override() if it may", free.override(0, 1), 0);
        Check.due("its angle", free.crane(0, Sites.ANGLE), 4);
    }

    private static void overrideAcrossZero() {
        Doc.says(OVERRIDES, "do a whole step at once,");
        CraneGuard x = Sites.withCranes(35, 0);
        x.slew(0, 9, 1);
        x.slew(1, 9, -1);
        x.override(0, 1);
        x.override(1, 1);
        Check.due("clockwise from 35", x.crane(0, Sites.ANGLE), 0);
        Check.due("the other way from 0", x.crane(1, Sites.ANGLE), 35);
    }

    private static void overrideToItsTarget() {
        Doc.says(OVERRIDES, "if its angle is its target then, it has no target any more.");
        for (int target : new int[] {1, 35}) {
            CraneGuard x = Sites.withCranes(0);
            x.slew(0, target, 0);
            x.override(0, 1);
            Check.due("its angle", x.crane(0, Sites.ANGLE), target);
            Check.due("its target", x.crane(0, Sites.TARGET), Sites.NONE);
            Check.due("its way", x.crane(0, Sites.WAY), 0);
            Check.due("override() again", x.override(0, 1), Sites.BAD_STATE);
            Check.due("notes()", x.notes(), 1);
            x.slew(0, 0, target == 1 ? 1 : -1);
            x.override(0, 1);
            Check.due("its target if it is not there", x.crane(0, Sites.TARGET), 0);
        }
    }

    private static void overrideRefused() {
        Doc.says(24, "BAD_STATE if the crane has no target, or is on a step;");
        Boundary.refused("override() without a target", Boundary::busy, x -> x.override(0, 1), Sites.BAD_STATE);
        Boundary.refused("override() on a step", Boundary::busy, x -> x.override(1, 1), Sites.BAD_STATE);
        Boundary.refused("override() left to the wind", Boundary::busy, x -> x.override(2, 1), Sites.BAD_STATE);
        CraneGuard x = Boundary.busy();
        x.tick(1);
        Check.due("override() on the step's last tick", x.override(1, 1), Sites.BAD_STATE);
        x.tick(1);
        Check.due("override() behind the step", x.override(1, 1), 0);
    }

    private static void overrideReasons() {
        Doc.says(24, "- `reason`: 1 to 9");
        Doc.says(24, "BAD_VALUE if reason is out of range;");
        Boundary.range("reason", Boundary::busy, (x, v) -> x.override(3, v), 1, 9, Sites.BAD_VALUE);
        Doc.says(OVERRIDES, "It is noted: with the time, the crane, a reason, 1 to 9,");
        for (int reason = 1; reason <= 9; reason++) {
            CraneGuard x = Boundary.busy();
            x.tick(reason);
            x.override(3, reason);
            int[] due = {1 + reason, 3, reason, 1};
            for (int part = 0; part < 4; part++) {
                Check.due("note(2, " + part + ")", x.note(2, part), due[part]);
            }
        }
    }

    private static void overrideConflicts() {
        Doc.says(OVERRIDES, "and the set of zones that are conflicts behind the step.");
        Doc.says(24, "Returns the set of the conflicts behind the step;");
        // The step leads out of some conflicts and into others; those of other cranes count as well.
        for (int zones = 0; zones < 64; zones++) {
            CraneGuard x = Sites.withCranes(10, 20, 30, 30);
            for (int zone = 0; zone < 5; zone++) {
                int at = (zones >> zone & 1) == 1 ? 11 : 10;
                x.setArc(0, zone, at, at);
                x.setArc(1, zone, 21, 21);
            }
            if (zones >= 32) {
                x.setArc(2, 5, 30, 30);
                x.setArc(3, 5, 31, 31);
                x.slew(3, 35, 1);
                x.override(3, 1);
            }
            x.slew(1, 25, 1);
            int before = x.override(1, 1);
            Check.due("override() before", before, 31 - (zones & 31) + (zones & 32));
            x.slew(0, 15, 1);
            Check.due("override()", x.override(0, 1), zones);
            Check.due("its note", x.note(x.notes() - 1, 3), zones);
            Check.due("conflicts()", x.conflicts(), zones);
        }
    }

    private static void tenNotes() {
        Doc.says(OVERRIDES, "At most 10 notes are kept.");
        CraneGuard x = Sites.withCranes(0);
        x.slew(0, 35, 1);
        for (int notes = 1; notes <= 10; notes++) {
            Check.due("override()", x.override(0, 1), 0);
            Check.due("notes()", x.notes(), notes);
        }
        Check.due("override() with 10 notes", x.override(0, 1), Sites.FULL);
        Check.due("notes()", x.notes(), 10);
        x.undo();
        Check.due("notes() behind undo()", x.notes(), 9);
        Check.due("override() behind undo()", x.override(0, 1), 0);
    }

    private static void overrideWhenFull() {
        Doc.says(24, "FULL if there are 10 notes.");
        Boundary.Maker full = Boundary::busyWithTenNotes;
        Check.due("notes()", full.make().notes(), 10);
        Boundary.refused("override()", full, x -> x.override(3, 1), Sites.FULL);
        Boundary.refused("without a target", full, x -> x.override(2, 1), Sites.BAD_STATE);
        Boundary.refused("on a step", full, x -> x.override(1, 1), Sites.BAD_STATE);
        Boundary.refused("of a bad reason", full, x -> x.override(3, 10), Sites.BAD_VALUE);
        Boundary.refused("of no crane", full, x -> x.override(4, 1), Sites.BAD_INDEX);
    }

    private static void notes() {
        Doc.says(25, "Returns the number of notes.");
        Doc.says(25, "Returns the number.");
        Check.due("notes() of none", new CraneGuard().notes(), 0);
        Check.due("notes() of two", Boundary.busy().notes(), 2);
        CraneGuard x = Boundary.busy();
        x.override(1, 1);
        Check.due("notes() behind a refused override", x.notes(), 2);
    }

    private static void noteRanges() {
        Doc.says(26, "Returns a part of a note.");
        Doc.says(26, "- `note`: its number, from 0");
        Doc.says(26, "BAD_INDEX if there is no such note;");
        for (int bad : new int[] {-1, 0, 1, 10, Integer.MIN_VALUE, Integer.MAX_VALUE}) {
            Boundary.refused("note(" + bad + ", 0)", Boundary::plain, x -> x.note(bad, 0), Sites.BAD_INDEX);
        }
        for (int bad : new int[] {-1, 2, 9, 10, -2, Integer.MIN_VALUE, Integer.MAX_VALUE, 1 << 30}) {
            Boundary.refused("note(" + bad + ", 0)", Boundary::busy, x -> x.note(bad, 0), Sites.BAD_INDEX);
        }
        for (int bad : new int[] {-1, 10, 11, Integer.MIN_VALUE, Integer.MAX_VALUE, 1 << 30}) {
            Boundary.refused("note(" + bad + ", 0)", Boundary::busyWithTenNotes, x -> x.note(bad, 0), Sites.BAD_INDEX);
        }
        Doc.says(26, "BAD_VALUE if what is out of range.");
        for (int bad : new int[] {-1, 4, 5, -4, Integer.MIN_VALUE, Integer.MAX_VALUE}) {
            Boundary.refused("note(1, " + bad + ")", Boundary::busy, x -> x.note(1, bad), Sites.BAD_VALUE);
        }
        Doc.says(26, "- `what`: 0 the time, 1 the crane, 2 the reason, 3 the set of conflicts");
        Doc.says(26, "Returns the part;");
        int[][] due = {{0, 0, 4, 0}, {0, 0, 5, 0}};
        for (int part = 0; part < 4; part++) {
            Check.due("note(0, " + part + ")", Boundary.busy().note(0, part), due[0][part]);
            Check.due("note(1, " + part + ")", Boundary.busy().note(1, part), due[1][part]);
        }
    }

    private static void noteKeepsWhatWas() {
        Doc.says(26, "3 the set of conflicts");
        CraneGuard x = Boundary.busy();
        x.override(3, 6);
        x.override(3, 7);
        x.tick(9);
        int[][] due = {{1, 3, 6, 1}, {1, 3, 7, 0}};
        for (int part = 0; part < 4; part++) {
            Check.due("note(2, " + part + ")", x.note(2, part), due[0][part]);
            Check.due("note(3, " + part + ")", x.note(3, part), due[1][part]);
        }
    }

    private static void clearNotes() {
        Doc.says(27, "Removes all notes.");
        Doc.says(27, "Returns how many there were.");
        Check.due("clearNotes() of none", new CraneGuard().clearNotes(), 0);
        CraneGuard x = Boundary.busyWithTenNotes();
        Check.due("clearNotes() of ten", x.clearNotes(), 10);
        Check.due("clearNotes() again", x.clearNotes(), 0);
        Check.due("notes()", x.notes(), 0);
        Check.due("note(0, 0)", x.note(0, 0), Sites.BAD_INDEX);
        Check.due("override() then", x.override(3, 8), 1);
        Check.due("note(0, 2)", x.note(0, 2), 8);
        Check.due("note(1, 2), one of those removed", x.note(1, 2), Sites.BAD_INDEX);
    }
}
