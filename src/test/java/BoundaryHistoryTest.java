import java.util.ArrayList;
import java.util.List;

/** The boundary cases of the history, of what is recorded, and of the order of errors; promises 28 and 33. */
final class BoundaryHistoryTest {
    private static final String HISTORY = "Text";

    private BoundaryHistoryTest() {
    }

    static void run() {
        atMostFiveStates();
        everyOrderOfRecordsAndUndos();
        recorded();
        recordedEvenIfNothingChanges();
        recordedWithAnEmptyHistory();
        notRecorded();
        wholeState();
        allButTheText();
        oldestIsDropped();
        undoRefused();
        undoRemoves();
        noneStandsForNone();
        errorCodes();
        noSuchCrane();
        noSuchZone();
        indexBeforeValue();
        indexBeforeState();
        valueBeforeStateAndFull();
        stateBeforeFull();
        noneOnlyWithoutErrors();
        digest();
        digestOverflows();
        digestOfTheRest();
        at512Calls();
    }

    private static void atMostFiveStates() {
        Doc.says(HISTORY, "A history of at most 5 states is kept.");
        for (int calls = 0; calls <= 12; calls++) {
            CraneGuard x = new CraneGuard();
            for (int k = 1; k <= calls; k++) {
                x.setWind(k);
            }
            for (int left = Math.min(calls, 5) - 1; left >= 0; left--) {
                Check.due("undo() behind " + calls + " calls", x.undo(), left);
            }
            Check.due("undo() with an empty history", x.undo(), Sites.BAD_STATE);
            Check.due("the wind then", x.setWind(0), Math.max(calls - 5, 0));
        }
    }

    private static void everyOrderOfRecordsAndUndos() {
        Doc.says(HISTORY, "undo() removes and restores the latest one.");
        Doc.says(28, "Removes and restores the latest state of the history.");
        Doc.says(28, "Returns the number of states that are left in it;");
        for (int order = 0; order < 1 << 13; order++) {
            CraneGuard x = new CraneGuard();
            List<Integer> past = new ArrayList<>();
            int now = 0;
            for (int k = 0; k < 13; k++) {
                if ((order >> k & 1) == 1) {
                    Check.due("setWind()", x.setWind(k + 1), now);
                    past.add(now);
                    now = k + 1;
                    if (past.size() > 5) {
                        past.remove(0);
                    }
                } else if (past.isEmpty()) {
                    Check.due("undo()", x.undo(), Sites.BAD_STATE);
                } else {
                    now = past.remove(past.size() - 1);
                    Check.due("undo()", x.undo(), past.size());
                }
            }
        }
    }

    private static void recorded() {
        Doc.says(HISTORY, "The methods that are said to be recorded record the whole state (all but the text) before "
                + "each call that returns no error,");
        dueRecorded(2, "Recorded.", () -> {
            CraneGuard x = new CraneGuard();
            x.setWind(5);
            return x;
        }, x -> x.addCrane(1, 1, 1), 0);
        dueRecorded(3, "Sets the priority of a crane. Recorded.", Boundary::busy, x -> x.setPriority(0, 9), 3);
        dueRecorded(4, "Recorded.", Boundary::busy, x -> x.setArc(0, 5, 1, 2), 2);
        dueRecorded(5, "Recorded.", Boundary::busy, x -> x.removeArc(0, 1), 1);
        dueRecorded(11, "Recorded.", Boundary::busy, x -> x.slew(0, 5, 1), 5);
        dueRecorded(12, "Recorded.", Boundary::busy, x -> x.stop(3), 33);
        dueRecorded(13, "Recorded.", Boundary::busy, x -> x.turnRound(3), 33);
        dueRecorded(14, "Recorded, as one call.", Boundary::busy, x -> x.tick(1), 2);
        dueRecorded(14, "Recorded, as one call.", Boundary::busy, x -> x.tick(200), 201);
        dueRecorded(22, "Recorded.", Boundary::busy, x -> x.setWind(9), 0);
        dueRecorded(23, "Recorded.", Boundary::busy, x -> x.leave(2, false), 1);
        dueRecorded(24, "Recorded.", Boundary::busy, x -> x.override(3, 1), 1);
        dueRecorded(27, "Recorded.", Boundary::busy, CraneGuard::clearNotes, 2);
        dueRecorded(32, "Recorded, as one call.", Boundary::busy, CraneGuard::command, 3);
        dueRecorded(32, "Recorded, as one call.", () -> {
            CraneGuard x = Boundary.busy();
            Sites.typeAnew(x, "0>5;3<7;0<9;3>1;0~35;3~0");
            return x;
        }, CraneGuard::command, 3);
    }

    private static void dueRecorded(int promise, String words, Boundary.Maker site, Boundary.Call call, long answer) {
        Doc.says(promise, words);
        Boundary.recorded("the call of promise " + promise, site, call, answer);
    }

    private static void recordedEvenIfNothingChanges() {
        Doc.says(HISTORY, "even if it changes nothing;");
        dueRecordedThoughAlike("setPriority()", x -> x.setPriority(0, 3), 3);
        dueRecordedThoughAlike("setArc()", x -> x.setArc(0, 1, 5, 6), 2);
        dueRecordedThoughAlike("removeArc()", x -> x.removeArc(0, 5), 0);
        dueRecordedThoughAlike("slew() to its own angle", x -> x.slew(0, 0, 1), 0);
        dueRecordedThoughAlike("slew() to its target", x -> x.slew(3, 33, 1), 3);
        dueRecordedThoughAlike("stop()", x -> x.stop(0), Sites.NONE);
        dueRecordedThoughAlike("setWind()", x -> x.setWind(0), 0);
        dueRecordedThoughAlike("leave(2, true)", x -> x.leave(2, true), 1);
        dueRecordedThoughAlike("leave(0, false)", x -> x.leave(0, false), 0);
        dueRecordedThoughAlike("leave(1, false)", x -> x.leave(1, false), 0);
        Boundary.Maker withoutNotes = () -> {
            CraneGuard x = Boundary.busy();
            x.clearNotes();
            return x;
        };
        dueAlike("clearNotes()", withoutNotes, CraneGuard::clearNotes);
        Boundary.recorded("clearNotes()", withoutNotes, CraneGuard::clearNotes, 0);
        Boundary.Maker commanded = () -> {
            CraneGuard x = Boundary.busy();
            x.command();
            return x;
        };
        dueAlike("command()", commanded, CraneGuard::command);
        Boundary.recorded("command()", commanded, CraneGuard::command, 3);
    }

    private static void dueRecordedThoughAlike(String name, Boundary.Call call, long answer) {
        dueAlike(name, Boundary::busy, call);
        Boundary.recorded(name, Boundary::busy, call, answer);
    }

    private static void dueAlike(String name, Boundary.Maker site, Boundary.Call call) {
        CraneGuard x = site.make();
        call.on(x);
        Check.due(name + ", then digest()", x.digest(), site.make().digest());
    }

    private static void recordedWithAnEmptyHistory() {
        Doc.says(HISTORY, "record the whole state");
        Boundary.Maker empty = CraneGuard::new;
        Boundary.recorded("addCrane()", empty, x -> x.addCrane(0, 1, 0), 0);
        Boundary.recorded("tick()", empty, x -> x.tick(1), 1);
        Boundary.recorded("setWind()", empty, x -> x.setWind(0), 0);
        Boundary.recorded("clearNotes()", empty, CraneGuard::clearNotes, 0);
        Boundary.refused("command()", empty, CraneGuard::command, Sites.BAD_STATE);
        Boundary.refused("undo()", empty, CraneGuard::undo, Sites.BAD_STATE);
    }

    private static void notRecorded() {
        Doc.says(HISTORY, "The methods that are said to be recorded");
        Boundary.changesNothing("cranes()", Boundary::busy, CraneGuard::cranes, 4);
        Boundary.changesNothing("crane()", Boundary::busy, x -> x.crane(2, 8), 1);
        Boundary.changesNothing("arc()", Boundary::busy, x -> x.arc(0, 1, true), 6);
        Boundary.changesNothing("occupants()", Boundary::busy, x -> x.occupants(0), 4);
        Boundary.changesNothing("conflicts()", Boundary::busy, CraneGuard::conflicts, 0);
        Boundary.changesNothing("time()", Boundary::busy, CraneGuard::time, 1);
        Boundary.changesNothing("needs()", Boundary::busy, x -> x.needs(1), 14);
        Boundary.changesNothing("blocker()", Boundary::busy, x -> x.blocker(3), 2);
        Boundary.changesNothing("cycle()", Boundary::busy, CraneGuard::cycle, 0);
        Boundary.changesNothing("notes()", Boundary::busy, CraneGuard::notes, 2);
        Boundary.changesNothing("note()", Boundary::busy, x -> x.note(1, 2), 5);
        Boundary.changesNothing("digest()", Boundary::busy, CraneGuard::digest, Boundary.busy().digest());
        CraneGuard x = Boundary.busy();
        x.type('0');
        x.clearText();
        Check.holds("type() and clearText()", Boundary.past(x).equals(Boundary.past(Boundary.busy())));
    }

    private static void wholeState() {
        Doc.says(HISTORY, "record the whole state (all but the text)");
        Boundary.Call[] calls = {x -> x.setPriority(0, 9), x -> x.setArc(0, 5, 1, 2), x -> x.removeArc(1, 1),
            x -> x.slew(0, 5, 1), x -> x.stop(3), x -> x.turnRound(3), x -> x.tick(200), x -> x.setWind(9),
            x -> x.leave(2, false), x -> x.override(3, 1), CraneGuard::clearNotes, CraneGuard::command};
        // What is brought back must also go on as the state before did.
        for (int k = 0; k < calls.length; k++) {
            CraneGuard x = Boundary.busy();
            CraneGuard y = Boundary.busy();
            calls[k].on(x);
            Check.holds("call " + k + " changes the state", x.digest() != y.digest());
            x.undo();
            Check.due("digest() behind undo()", x.digest(), y.digest());
            x.tick(50);
            y.tick(50);
            Check.due("digest() 50 ticks later", x.digest(), y.digest());
            Check.due("setWind() then", x.setWind(0), y.setWind(0));
        }
    }

    private static void allButTheText() {
        Doc.says(HISTORY, "(all but the text)");
        CraneGuard x = Sites.withCranes(0, 0);
        x.setWind(1);
        Sites.type(x, "1>9");
        x.undo();
        Check.due("textFault() behind undo()", x.textFault(), Sites.NONE);
        x.setWind(2);
        x.clearText();
        x.undo();
        Check.due("clearText() behind undo()", x.clearText(), 0);
    }

    private static void oldestIsDropped() {
        Doc.says(HISTORY, "when one more is recorded, the oldest one is dropped.");
        CraneGuard x = new CraneGuard();
        long[] digests = new long[20];
        for (int k = 0; k < 20; k++) {
            digests[k] = x.digest();
            x.tick(k + 1);
        }
        for (int k = 19; k >= 15; k--) {
            Check.due("undo()", x.undo(), k - 15);
            Check.due("digest()", x.digest(), digests[k]);
        }
        Check.due("undo() of one that was dropped", x.undo(), Sites.BAD_STATE);
        Check.due("digest()", x.digest(), digests[15]);
    }

    private static void undoRefused() {
        Doc.says(28, "BAD_STATE if it is empty.");
        Boundary.refused("undo() of a new site", CraneGuard::new, CraneGuard::undo, Sites.BAD_STATE);
        Boundary.Maker used = () -> {
            CraneGuard x = Boundary.busy();
            Boundary.past(x);
            return x;
        };
        Boundary.refused("undo() of an empty history", used, CraneGuard::undo, Sites.BAD_STATE);
        CraneGuard x = used.make();
        x.undo();
        x.undo();
        Check.due("setWind() then", x.setWind(3), 0);
        Check.due("undo() then", x.undo(), 0);
        Check.due("setWind() then", x.setWind(3), 0);
    }

    private static void undoRemoves() {
        Doc.says(HISTORY, "undo() removes and restores the latest one.");
        CraneGuard x = Boundary.busy();
        List<Long> before = Boundary.past(Boundary.busy());
        Check.due("undo()", x.undo(), 4);
        Check.holds("undo() is not recorded", Boundary.past(x).equals(before.subList(1, 6)));
    }

    private static void noneStandsForNone() {
        Doc.says(HISTORY, "NONE (-100) stands for \"there is none\".");
        Check.due("NONE", CraneGuard.NONE, -100);
        CraneGuard x = Boundary.busy();
        Check.due("no target", x.crane(0, Sites.TARGET), -100);
        Check.due("no arc", x.arc(0, 0, false), -100);
        Check.due("no blocker", x.blocker(0), -100);
        Check.due("no fault", x.textFault(), -100);
        Check.due("no end foretold", x.allDone(), -100);
        Check.due("no target that is taken away", x.stop(0), -100);
    }

    private static void errorCodes() {
        Doc.says(HISTORY, "The error codes are BAD_INDEX (-101): there is no such crane, zone, or note; BAD_VALUE "
                + "(-102): another argument is out of its range; BAD_STATE (-103): the call is not possible, as told; "
                + "FULL (-104): there is no room.");
        Doc.says(HISTORY, "The constants: - `NONE = -100, BAD_INDEX = -101, BAD_VALUE = -102, BAD_STATE = -103, FULL = "
                + "-104`: NONE: there is none. The others are error codes.");
        Check.due("BAD_INDEX", CraneGuard.BAD_INDEX, -101);
        Check.due("BAD_VALUE", CraneGuard.BAD_VALUE, -102);
        Check.due("BAD_STATE", CraneGuard.BAD_STATE, -103);
        Check.due("FULL", CraneGuard.FULL, -104);
        Check.due("no such crane", Boundary.busy().needs(4), -101);
        Check.due("no such zone", Boundary.busy().occupants(6), -101);
        Check.due("no such note", Boundary.busy().note(2, 0), -101);
        Check.due("out of its range", Boundary.busy().tick(0), -102);
        Check.due("not possible", Boundary.busy().stop(1), -103);
        Check.due("no room", Boundary.busy().addCrane(0, 1, 0), -104);
    }

    /** A method with the number of its promise and a call of it with this crane, or zone, and all else in range. */
    private record Indexed(int promise, String name, Boundary.CallWith call) {
    }

    private static final Indexed[] WITH_A_CRANE = {
        new Indexed(3, "setPriority", (x, c) -> x.setPriority(c, 1)),
        new Indexed(4, "setArc", (x, c) -> x.setArc(c, 0, 7, 7)),
        new Indexed(5, "removeArc", (x, c) -> x.removeArc(c, 0)),
        new Indexed(7, "crane", (x, c) -> x.crane(c, 0)),
        new Indexed(8, "arc", (x, c) -> x.arc(c, 0, false)),
        new Indexed(8, "arc", (x, c) -> x.arc(c, 0, true)),
        new Indexed(11, "slew", (x, c) -> x.slew(c, 5, 1)),
        new Indexed(12, "stop", (x, c) -> x.stop(c)),
        new Indexed(13, "turnRound", (x, c) -> x.turnRound(c)),
        new Indexed(16, "needs", (x, c) -> x.needs(c)),
        new Indexed(17, "blocker", (x, c) -> x.blocker(c)),
        new Indexed(20, "done", (x, c) -> x.done(c)),
        new Indexed(21, "waits", (x, c) -> x.waits(c, 1)),
        new Indexed(23, "leave", (x, c) -> x.leave(c, true)),
        new Indexed(23, "leave", (x, c) -> x.leave(c, false)),
        new Indexed(24, "override", (x, c) -> x.override(c, 1))};

    private static final Indexed[] WITH_A_ZONE = {
        new Indexed(4, "setArc", (x, z) -> x.setArc(0, z, 7, 7)),
        new Indexed(5, "removeArc", (x, z) -> x.removeArc(0, z)),
        new Indexed(8, "arc", (x, z) -> x.arc(0, z, false)),
        new Indexed(8, "arc", (x, z) -> x.arc(0, z, true)),
        new Indexed(9, "occupants", CraneGuard::occupants)};

    private static void noSuchCrane() {
        for (Indexed method : WITH_A_CRANE) {
            Doc.says(method.promise, "- `crane`: its number");
            boolean orZone = method.promise == 4 || method.promise == 5 || method.promise == 8;
            Doc.says(method.promise, "BAD_INDEX if there is no such crane" + (orZone ? " or zone" : ""));
            for (int cranes = 0; cranes <= 4; cranes++) {
                Boundary.Maker site = siteWith(cranes);
                for (int bad : new int[] {-1, cranes, 4, 5, -4, 1 << 30, Integer.MIN_VALUE, Integer.MAX_VALUE}) {
                    Boundary.refused(method.name + " of crane " + bad + " of " + cranes, site,
                            x -> method.call.on(x, bad), Sites.BAD_INDEX);
                }
                for (int good = 0; good < cranes; good++) {
                    int crane = good;
                    Boundary.taken(method.name + " of crane " + crane + " of " + cranes, site,
                            x -> method.call.on(x, crane));
                }
            }
        }
    }

    /** So many cranes, all with targets; also the texts and the history are not empty. */
    private static Boundary.Maker siteWith(int cranes) {
        return () -> {
            CraneGuard x = Sites.withCranes(new int[cranes]);
            for (int crane = 0; crane < cranes; crane++) {
                x.slew(crane, 9, 1);
            }
            x.setWind(7);
            Sites.type(x, "0>5");
            return x;
        };
    }

    private static void noSuchZone() {
        for (Indexed method : WITH_A_ZONE) {
            if (method.promise != 9) {
                Doc.says(method.promise, "BAD_INDEX if there is no such crane or zone");
            } else {
                Doc.says(method.promise, "BAD_INDEX if there is no such zone.");
            }
            Doc.says(method.promise, "- `zone`: 0 to 5");
            Boundary.range(method.name + " of zone", siteWith(1), method.call, 0, 5, Sites.BAD_INDEX);
            Boundary.range(method.name + " of zone", siteWith(4), method.call, 0, 5, Sites.BAD_INDEX);
        }
    }

    private static void indexBeforeValue() {
        Doc.says(HISTORY, "If several apply to a call, the first one in this order is returned;");
        for (int bad : new int[] {-1, 4, Integer.MIN_VALUE, Integer.MAX_VALUE}) {
            dueIndex("setPriority", x -> x.setPriority(bad, 10));
            dueIndex("setArc", x -> x.setArc(bad, 0, 36, 0));
            dueIndex("setArc", x -> x.setArc(bad, 0, 0, -1));
            dueIndex("setArc", x -> x.setArc(bad, 6, 36, 36));
            dueIndex("setArc", x -> x.setArc(0, bad == 4 ? 6 : bad, 36, 36));
            dueIndex("crane", x -> x.crane(bad, 10));
            dueIndex("crane", x -> x.crane(bad, -1));
            dueIndex("slew", x -> x.slew(bad, 36, 1));
            dueIndex("slew", x -> x.slew(bad, 0, 2));
            dueIndex("waits", x -> x.waits(bad, 0));
            dueIndex("waits", x -> x.waits(bad, 1001));
            dueIndex("override", x -> x.override(bad, 0));
            dueIndex("override", x -> x.override(bad, 10));
            dueIndex("note", x -> x.note(bad, 4));
            dueIndex("note", x -> x.note(bad, -1));
        }
    }

    private static void dueIndex(String name, Boundary.Call call) {
        Boundary.refused(name, Boundary::busy, call, Sites.BAD_INDEX);
    }

    private static void indexBeforeState() {
        Doc.says(HISTORY, "the first one in this order is returned;");
        // Crane 2 is left to the wind, which is BAD_STATE, but the zone is wrong as well.
        dueIndex("setArc of a crane left", x -> x.setArc(2, 6, 0, 0));
        dueIndex("setArc of a crane left", x -> x.setArc(2, -1, 36, 0));
        Boundary.Maker full = Boundary::busyWithTenNotes;
        Boundary.refused("override with 10 notes", full, x -> x.override(4, 1), Sites.BAD_INDEX);
        Boundary.refused("override with 10 notes", full, x -> x.override(-1, 0), Sites.BAD_INDEX);
    }

    private static void valueBeforeStateAndFull() {
        Doc.says(HISTORY, "the first one in this order is returned;");
        dueValue("setArc of a crane left", x -> x.setArc(2, 0, 36, 0));
        dueValue("setArc of a crane left", x -> x.setArc(2, 0, 0, -1));
        dueValue("setArc into a conflict", x -> x.setArc(0, 1, 0, 36));
        dueValue("slew on a step", x -> x.slew(1, 36, 1));
        dueValue("slew on a step", x -> x.slew(1, 0, 2));
        dueValue("slew left to the wind", x -> x.slew(2, -1, 1));
        dueValue("slew left to the wind", x -> x.slew(2, 0, -2));
        dueValue("override without a target", x -> x.override(0, 0));
        dueValue("override on a step", x -> x.override(1, 10));
        dueValue("a fifth crane", x -> x.addCrane(36, 1, 0));
        dueValue("a fifth crane", x -> x.addCrane(0, 0, 0));
        dueValue("a fifth crane", x -> x.addCrane(0, 1, 10));
        Boundary.Maker full = Boundary::busyWithTenNotes;
        Boundary.refused("override with 10 notes", full, x -> x.override(3, 0), Sites.BAD_VALUE);
    }

    private static void dueValue(String name, Boundary.Call call) {
        Boundary.refused(name, Boundary::busy, call, Sites.BAD_VALUE);
    }

    private static void stateBeforeFull() {
        Doc.says(HISTORY, "the first one in this order is returned;");
        Boundary.Maker full = Boundary::busyWithTenNotes;
        Boundary.refused("override on a step", full, x -> x.override(1, 1), Sites.BAD_STATE);
        Boundary.refused("override left to the wind", full, x -> x.override(2, 1), Sites.BAD_STATE);
        Boundary.Maker stopped = () -> {
            CraneGuard x = full.make();
            x.stop(0);
            return x;
        };
        Boundary.refused("override without a target", stopped, x -> x.override(0, 1), Sites.BAD_STATE);
    }

    private static void noneOnlyWithoutErrors() {
        Doc.says(HISTORY, "NONE is returned only if no error applies.");
        Doc.says(HISTORY, "A call that returns an error changes nothing.");
        // There is no target, arc, blocker or end of waiting of these either.
        for (int bad : new int[] {-1, 4}) {
            dueIndex("stop", x -> x.stop(bad));
            dueIndex("arc", x -> x.arc(bad, 0, true));
            dueIndex("arc", x -> x.arc(0, bad == 4 ? 6 : bad, true));
            dueIndex("blocker", x -> x.blocker(bad));
            dueIndex("done", x -> x.done(bad));
            dueIndex("crane", x -> x.crane(bad, Sites.TARGET));
        }
    }

    private static void digest() {
        Doc.says(33, "Returns a hash of the state. It begins with h = 17; for each of the following numbers v, in this "
                + "order, h becomes 31 * h + v (long arithmetic, with overflow): time(); the angle of the wind; the "
                + "number of cranes;");
        Doc.says(33, "Returns h.");
        CraneGuard x = new CraneGuard();
        Check.due("digest() of a new site", x.digest(), 17L * 31 * 31 * 31 * 31);
        x.tick(200);
        x.setWind(35);
        Check.due("digest() without cranes", x.digest(), (((17L * 31 + 200) * 31 + 35) * 31) * 31);
    }

    private static void digestOverflows() {
        Doc.says(33, "for each crane its properties 0 to 9, and for each zone both limits of its arc, the first one "
                + "first; the number of notes, and for each note its parts 0 to 3.");
        for (int cranes = 0; cranes <= 4; cranes++) {
            CraneGuard x = Sites.withCranes(new int[cranes]);
            x.setWind(7);
            Check.due("digest() of " + cranes + " cranes", x.digest(), reckoned(x, 7));
            if (cranes > 0) {
                x.setArc(0, 0, 35, 0);
                x.setArc(0, 5, 9, 8);
                x.slew(0, 35, 1);
            }
            for (int notes = 0; notes < 10; notes++) {
                Check.due("digest() of " + notes + " notes", x.digest(), reckoned(x, 7));
                x.override(0, 1 + notes % 9);
            }
            Check.due("digest() of all notes", x.digest(), reckoned(x, 7));
        }
        CraneGuard busy = Boundary.busyWithTenNotes();
        Check.due("digest() of a busy site", busy.digest(), reckoned(busy, 0));
    }

    private static long reckoned(CraneGuard x, int wind) {
        long h = ((17L * 31 + x.time()) * 31 + wind) * 31 + x.cranes();
        for (int crane = 0; crane < x.cranes(); crane++) {
            for (int what = 0; what < 10; what++) {
                h = 31 * h + x.crane(crane, what);
            }
            for (int limit = 0; limit < 12; limit++) {
                h = 31 * h + x.arc(crane, limit / 2, limit % 2 == 1);
            }
        }
        h = 31 * h + x.notes();
        for (int part = 0; part < 4 * x.notes(); part++) {
            h = 31 * h + x.note(part / 4, part % 4);
        }
        return h;
    }

    private static void digestOfTheRest() {
        Doc.says(33, "Returns a hash of the state.");
        // Neither the text, nor the history, nor notes that were removed count.
        CraneGuard x = Boundary.busy();
        CraneGuard y = Boundary.busy();
        x.clearText();
        x.clearNotes();
        y.setWind(5);
        y.setWind(0);
        y.override(3, 9);
        y.undo();
        y.clearNotes();
        Check.due("digest()", x.digest(), y.digest());
    }

    private static void at512Calls() {
        Doc.says("What it is", "An object is used for at most 512 calls after it has been made;");
        CraneGuard recorded = Sites.withCranes(0);
        for (int call = 2; call <= 511; call++) {
            int before = call == 2 ? 0 : (call - 1) % 10;
            Check.due("setPriority() as call " + call, recorded.setPriority(0, call % 10), before);
        }
        Check.due("undo() as call 512", recorded.undo(), 4);
        CraneGuard undone = Sites.withCranes(0);
        for (int call = 2; call <= 511; call += 2) {
            Check.due("setWind() as call " + call, undone.setWind(call % 36), 0);
            Check.due("undo() as call " + (call + 1), undone.undo(), 1);
        }
        Check.due("setWind() as call 512", undone.setWind(9), 0);
        CraneGuard waiting = Sites.inCycle();
        for (int call = 9; call <= 508; call++) {
            Check.due("tick() as call " + call, waiting.tick(200), 200 * (call - 8));
        }
        Check.due("the longest wait", waiting.crane(0, Sites.WAIT), 100000);
        Check.due("waits() behind it", waiting.waits(0, 1000), 1000);
        Check.due("tick() as call 511", waiting.tick(1), Sites.FULL);
        Check.due("allDone() as call 512", waiting.allDone(), Sites.NONE);
    }
}
