/** Promise 28: undo(), and what is recorded by which call. */
final class HistoryTest {
    private HistoryTest() {
    }

    static void run() {
        undo();
        oldestIsDropped();
        whatIsRecorded();
        whatIsNotRecorded();
        wholeState();
        textIsNotRestored();
    }

    // Promise 28
    private static void undo() {
        CraneGuard x = new CraneGuard();
        Check.due("p28 of an empty history", x.undo(), Sites.BAD_STATE);
        x.addCrane(3, 1, 0);
        Check.due("p28 undo()", x.undo(), 0);
        Check.due("p28 cranes()", x.cranes(), 0);
        Check.due("p28 of an empty history again", x.undo(), Sites.BAD_STATE);
        x.addCrane(4, 1, 0);
        x.setWind(1);
        Check.due("p28 undo()", x.undo(), 1);
        x.setWind(2);
        x.setWind(3);
        Check.due("p28 undo()", x.undo(), 2);
        Check.due("p28 undo()", x.undo(), 1);
        Check.due("p28 setWind(9)", x.setWind(9), 0);
        Check.due("p28 crane(0, 0)", x.crane(0, Sites.ANGLE), 4);
    }

    private static void oldestIsDropped() {
        CraneGuard x = new CraneGuard();
        for (int k = 1; k <= 30; k++) {
            x.setWind(k);
        }
        for (int left = 4; left >= 0; left--) {
            Check.due("p28 undo()", x.undo(), left);
        }
        Check.due("p28 only 5 are kept", x.undo(), Sites.BAD_STATE);
        Check.due("p28 the state of 5 calls ago", x.setWind(0), 25);
        for (int k = 0; k < 3; k++) {
            x.tick(1);
        }
        Check.due("p28 undo()", x.undo(), 3);
        Check.due("p28 time()", x.time(), 2);
        for (int k = 0; k < 4; k++) {
            x.tick(10);
        }
        Check.due("p28 time()", x.time(), 42);
        for (int left = 4; left >= 0; left--) {
            x.undo();
            Check.due("p28 time()", x.time(), left > 0 ? 2 + 10 * (left - 1) : 1);
        }
    }

    private static void whatIsRecorded() {
        CraneGuard x = new CraneGuard();
        x.addCrane(3, 1, 0);
        x.addCrane(20, 1, 0);
        Sites.type(x, "0>9");
        emptyHistory(x);
        Check.due("p28 setPriority", x.setPriority(0, 0), 0);
        Check.due("p28 setArc", x.setArc(0, 0, 1, 1), 1);
        Check.due("p28 removeArc", x.removeArc(0, 1), 0);
        dueHistory(x, 3);
        Check.due("p28 slew", x.slew(0, 5, 1), 2);
        Check.due("p28 turnRound", x.turnRound(0), 34);
        Check.due("p28 stop", x.stop(0), 5);
        dueHistory(x, 3);
        Check.due("p28 tick", x.tick(3), 3);
        Check.due("p28 setWind", x.setWind(0), 0);
        Check.due("p28 leave", x.leave(0, false), 0);
        dueHistory(x, 3);
        Check.due("p28 command", x.command(), 1);
        Check.due("p28 override", x.override(0, 1), 0);
        Check.due("p28 clearNotes", x.clearNotes(), 1);
        dueHistory(x, 3);
        Check.due("p28 addCrane", x.addCrane(0, 1, 0), 2);
        dueHistory(x, 1);
    }

    private static void emptyHistory(CraneGuard x) {
        for (int k = 0; k < 5; k++) {
            x.setWind(0);
        }
        // All states that are kept are alike now, so taking them back changes nothing.
        dueHistory(x, 5);
    }

    private static void dueHistory(CraneGuard x, int size) {
        for (int left = size - 1; left >= 0; left--) {
            Check.due("p28 undo()", x.undo(), left);
        }
        Check.due("p28 undo() of nothing more", x.undo(), Sites.BAD_STATE);
    }

    private static void whatIsNotRecorded() {
        CraneGuard x = Sites.withCranes(3);
        x.type('0');
        x.cranes();
        x.crane(0, 8);
        x.arc(0, 0, true);
        x.occupants(0);
        x.conflicts();
        x.time();
        x.needs(0);
        x.blocker(0);
        x.cycle();
        x.allDone();
        x.done(0);
        x.waits(0, 1);
        x.notes();
        x.note(0, 0);
        x.textFault();
        x.clearText();
        x.digest();
        x.command();
        x.turnRound(0);
        Check.due("p28 nothing more was recorded", x.undo(), 0);
        Check.due("p28 nothing more was recorded", x.undo(), Sites.BAD_STATE);
    }

    private static void wholeState() {
        CraneGuard x = Sites.inCycle();
        x.setWind(30);
        x.override(0, 3);
        x.addCrane(7, 4, 2);
        x.slew(2, 20, 1);
        x.tick(3);
        long before = x.digest();
        x.clearNotes();
        x.setWind(1);
        x.setPriority(2, 9);
        x.removeArc(0, 0);
        x.tick(200);
        Check.holds("p28 the state is another one", x.digest() != before);
        for (int left = 4; left >= 0; left--) {
            Check.due("p28 undo()", x.undo(), left);
        }
        Check.due("p28 the whole state is back", x.digest(), before);
    }

    private static void textIsNotRestored() {
        CraneGuard x = Sites.withCranes(3);
        x.type('0');
        x.setWind(1);
        x.type('>');
        x.undo();
        Check.due("p28 the text stays", x.clearText(), 2);
        x.undo();
        Check.due("p28 the text stays empty", x.clearText(), 0);
    }
}
