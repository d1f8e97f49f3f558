/** Promises 17 to 21: blockers, cycles, and what is foretold. */
final class WaitingTest {
    private WaitingTest() {
    }

    static void run() {
        blocker();
        blockerIsTheLowest();
        blockerOnlyIfBlocked();
        cycle();
        cycleWithATail();
        cycleOfThreeAndFour();
        allDone();
        allDoneAtTheLimit();
        done();
        waits();
        foretellingChangesNothing();
    }

    // Promise 17
    private static void blocker() {
        CraneGuard x = Sites.inCycle();
        Check.due("p17 blocker(0)", x.blocker(0), 1);
        Check.due("p17 blocker(1)", x.blocker(1), 0);
        x.stop(1);
        Check.due("p17 without a target", x.blocker(1), Sites.NONE);
        Check.due("p17 the other one has one still", x.blocker(0), 1);
        x.turnRound(0);
        Check.due("p17 the other way is free", x.blocker(0), Sites.NONE);
        for (int bad : new int[] {-1, 2, 4, Integer.MIN_VALUE, Integer.MAX_VALUE}) {
            Check.due("p17 blocker(" + bad + ")", x.blocker(bad), Sites.BAD_INDEX);
        }
    }

    private static void blockerIsTheLowest() {
        CraneGuard x = Sites.withCranes(0, 10, 20, 30);
        x.setArc(3, 0, 31, 31);
        x.setArc(3, 4, 31, 31);
        x.setArc(2, 0, 20, 20);
        x.setArc(1, 4, 10, 10);
        x.setArc(0, 5, 0, 0);
        x.slew(3, 35, 1);
        Check.due("p17 the lowest crane, by whichever zone", x.blocker(3), 1);
        x.removeArc(1, 4);
        Check.due("p17 the other one", x.blocker(3), 2);
        x.removeArc(2, 0);
        Check.due("p17 nobody", x.blocker(3), Sites.NONE);
        x.setArc(0, 4, 18, 18);
        x.leave(0, true);
        Check.due("p17 a crane left blocks", x.blocker(3), 0);
    }

    private static void blockerOnlyIfBlocked() {
        CraneGuard x = new CraneGuard();
        x.addCrane(3, 3, 0);
        x.addCrane(3, 3, 0);
        x.setArc(0, 0, 4, 4);
        x.setArc(1, 0, 4, 4);
        x.slew(0, 9, 1);
        x.slew(1, 9, 1);
        Check.due("p17 nobody is in the zone yet", x.blocker(0), Sites.NONE);
        Check.due("p17 nobody is in the zone yet", x.blocker(1), Sites.NONE);
        x.tick(1);
        Check.due("p17 one on a step is a blocker", x.blocker(1), 0);
        x.override(1, 1);
        Check.due("p17 one on a step is not blocked", x.blocker(0), Sites.NONE);
        // A crane is no blocker of its own.
        CraneGuard y = Sites.withCranes(3);
        y.setArc(0, 0, 3, 9);
        y.slew(0, 9, 1);
        Check.due("p17 its own zone", y.blocker(0), Sites.NONE);
        // It occupies the zone at its angle too, but does not need it for the next step.
        CraneGuard z = Sites.withCranes(3, 3);
        z.setArc(0, 0, 3, 3);
        z.setArc(1, 0, 2, 2);
        z.slew(1, 2, -1);
        z.override(1, 1);
        z.slew(0, 9, 1);
        Check.due("p17 a conflict behind it does not block", z.blocker(0), Sites.NONE);
    }

    // Promise 18
    private static void cycle() {
        CraneGuard x = Sites.inCycle();
        Check.due("p18 cycle()", x.cycle(), 3);
        x.tick(5);
        Check.due("p18 nobody turns", x.crane(0, Sites.ANGLE) + x.crane(1, Sites.ANGLE), 6);
        Check.due("p18 both wait", x.crane(0, Sites.WAIT) + x.crane(1, Sites.WAIT), 10);
        Check.due("p18 cycle()", x.cycle(), 3);
        x.stop(0);
        Check.due("p18 cycle() is open", x.cycle(), 0);
        Check.due("p18 one is blocked still", x.blocker(1), 0);
    }

    private static void cycleWithATail() {
        CraneGuard x = Sites.inCycle();
        x.addCrane(20, 1, 0);
        x.setArc(2, 0, 21, 21);
        x.slew(2, 30, 1);
        Check.due("p18 crane 2 waits for the cycle", x.blocker(2), 0);
        Check.due("p18 but it is not in it", x.cycle(), 3);
        x.addCrane(30, 1, 0);
        x.setArc(2, 5, 20, 20);
        x.setArc(3, 5, 31, 31);
        x.slew(3, 35, 1);
        Check.due("p18 crane 3 waits for crane 2", x.blocker(3), 2);
        Check.due("p18 neither is it", x.cycle(), 3);
    }

    private static void cycleOfThreeAndFour() {
        for (int many = 3; many <= 4; many++) {
            CraneGuard x = new CraneGuard();
            for (int crane = 0; crane < many; crane++) {
                x.addCrane(8 * crane, 1, 0);
            }
            // Crane c stands in zone c and needs the zone of the next crane.
            for (int crane = 0; crane < many; crane++) {
                x.setArc(crane, crane, 8 * crane, 8 * crane);
                x.setArc(crane, (crane + 1) % many, 8 * crane + 1, 8 * crane + 1);
                x.slew(crane, 8 * crane + 3, 1);
            }
            Check.due("p18 a cycle of " + many, x.cycle(), (1 << many) - 1);
            Check.due("p18 blocker(0)", x.blocker(0), 1);
            Check.due("p18 the last one's blocker", x.blocker(many - 1), 0);
            Check.due("p19 allDone() in a cycle", x.allDone(), Sites.NONE);
        }
        // Two cycles at once.
        CraneGuard x = Sites.inCycle();
        x.addCrane(20, 1, 0);
        x.addCrane(30, 1, 0);
        x.setArc(2, 4, 20, 20);
        x.setArc(2, 5, 21, 21);
        x.setArc(3, 5, 30, 30);
        x.setArc(3, 4, 29, 29);
        x.slew(2, 25, 1);
        x.slew(3, 25, -1);
        Check.due("p18 two cycles", x.cycle(), 15);
    }

    // Promise 19
    private static void allDone() {
        CraneGuard x = new CraneGuard();
        Check.due("p19 without cranes", x.allDone(), 0);
        x.addCrane(0, 3, 0);
        x.addCrane(5, 2, 0);
        Check.due("p19 without targets", x.allDone(), 0);
        x.slew(0, 4, 1);
        Check.due("p19 one target", x.allDone(), 12);
        x.slew(1, 12, 1);
        Check.due("p19 the last one counts", x.allDone(), 14);
        x.tick(13);
        Check.due("p19 one tick before", x.allDone(), 1);
        x.tick(1);
        Check.due("p19 all done", x.allDone(), 0);
        CraneGuard y = Sites.inCycle();
        Check.due("p19 never", y.allDone(), Sites.NONE);
        y.stop(1);
        Check.due("p19 blocked by one without a target", y.allDone(), Sites.NONE);
        y.slew(1, 2, -1);
        Check.due("p19 it goes away", y.allDone(), 8);
        Check.due("p19 the blocked one waits for that", y.waits(0, 100), 1);
    }

    private static void allDoneAtTheLimit() {
        // The longest ways of all, one after another: each crane waits until those before it are through.
        CraneGuard x = new CraneGuard();
        for (int crane = 0; crane < 4; crane++) {
            x.addCrane(0, 5, 9 - crane);
            x.setArc(crane, 0, 1, 35);
            x.slew(crane, 35, 1);
        }
        Check.due("p19 the first one stays in the zone", x.allDone(), Sites.NONE);
        Check.due("p20 the first one", x.done(0), 175);
        Check.due("p20 the second one never", x.done(1), Sites.NONE);
        Check.due("p21 waits(1, 1000)", x.waits(1, 1000), 1000);
        Check.due("p21 waits(0, 1000)", x.waits(0, 1000), 0);
        CraneGuard y = new CraneGuard();
        for (int crane = 0; crane < 4; crane++) {
            y.addCrane(0, 5, 9 - crane);
            y.setArc(crane, 0, 1, 34);
            y.slew(crane, 35, 1);
        }
        Check.due("p20 done(0)", y.done(0), 175);
        Check.due("p20 done(1)", y.done(1), 174 + 175);
        Check.due("p20 done(2)", y.done(2), 2 * 174 + 175);
        Check.due("p20 done(3)", y.done(3), 3 * 174 + 175);
        Check.due("p19 allDone()", y.allDone(), 3 * 174 + 175);
        Check.due("p21 waits(3, 1000)", y.waits(3, 1000), 3 * 174);
        Check.due("p21 waits(3, 100)", y.waits(3, 100), 100);
    }

    // Promise 20
    private static void done() {
        CraneGuard x = new CraneGuard();
        x.addCrane(0, 3, 0);
        x.addCrane(5, 2, 0);
        Check.due("p20 without a target", x.done(0), 0);
        x.slew(0, 4, 1);
        x.slew(1, 12, 1);
        Check.due("p20 done(0)", x.done(0), 12);
        Check.due("p20 done(1)", x.done(1), 14);
        x.tick(4);
        Check.due("p20 done(0) on a step", x.done(0), 8);
        Check.due("p20 done(1)", x.done(1), 10);
        x.leave(1, true);
        Check.due("p20 a crane left has no target", x.done(1), 0);
        for (int bad : new int[] {-1, 2, 4, 32, Integer.MIN_VALUE, Integer.MAX_VALUE}) {
            Check.due("p20 done(" + bad + ")", x.done(bad), Sites.BAD_INDEX);
        }
        CraneGuard y = Sites.inCycle();
        y.addCrane(20, 1, 0);
        y.slew(2, 22, 1);
        Check.due("p20 in a cycle", y.done(0), Sites.NONE);
        Check.due("p20 in a cycle", y.done(1), Sites.NONE);
        Check.due("p20 beside it", y.done(2), 2);
        // A wind that turns a crane opens no zone: it is locked as long as the crane is left.
        CraneGuard z = Sites.withCranes(10, 3);
        z.setArc(0, 0, 9, 10);
        z.setArc(1, 0, 4, 4);
        z.leave(0, true);
        z.slew(1, 5, 1);
        Check.due("p20 behind a crane left", z.done(1), Sites.NONE);
        z.leave(0, false);
        Check.due("p20 it is taken back in the zone", z.done(1), Sites.NONE);
        z.leave(0, true);
        z.tick(10);
        z.leave(0, false);
        Check.due("p20 it is taken back outside", z.done(1), 2);
    }

    // Promise 21
    private static void waits() {
        CraneGuard x = Sites.inCycle();
        Check.due("p21 waits(0, 1)", x.waits(0, 1), 1);
        Check.due("p21 waits(0, 1000)", x.waits(0, 1000), 1000);
        x.tick(3);
        Check.due("p21 what it waited already does not count", x.waits(0, 10), 10);
        x.stop(0);
        Check.due("p21 without a target", x.waits(0, 10), 0);
        Check.due("p21 the other one", x.waits(1, 10), 10);
        for (int bad : new int[] {-1, 2, 4, Integer.MIN_VALUE, Integer.MAX_VALUE}) {
            Check.due("p21 waits(" + bad + ", 1)", x.waits(bad, 1), Sites.BAD_INDEX);
            Check.due("p21 BAD_INDEX before BAD_VALUE", x.waits(bad, 0), Sites.BAD_INDEX);
        }
        for (int bad : new int[] {0, -1, 1001, Integer.MIN_VALUE, Integer.MAX_VALUE}) {
            Check.due("p21 waits(0, " + bad + ")", x.waits(0, bad), Sites.BAD_VALUE);
        }
        CraneGuard y = Sites.withCranes(5, 3);
        y.setArc(0, 0, 4, 8);
        y.setArc(1, 0, 4, 8);
        y.slew(0, 12, 1);
        y.slew(1, 12, 1);
        for (int many = 1; many <= 6; many++) {
            Check.due("p21 waits(1, " + many + ")", y.waits(1, many), Math.min(many, 3));
        }
        y.tick(2);
        Check.due("p21 it waited before", y.crane(1, Sites.WAIT), 2);
        Check.due("p21 waits(1, 2) behind that", y.waits(1, 2), 1);
        Check.due("p21 waits(1, 1000) behind that", y.waits(1, 1000), 1);
        // Crane 2 turns for long, and crane 1 waits in those ticks and for ever behind them.
        CraneGuard z = Sites.inCycle();
        z.addCrane(20, 5, 0);
        z.slew(2, 19, 1);
        Check.due("p21 waits(1, 1000) beside one that turns", z.waits(1, 1000), 1000);
        Check.due("p21 waits(1, 175)", z.waits(1, 175), 175);
        Check.due("p21 waits(2, 1000)", z.waits(2, 1000), 0);
    }

    private static void foretellingChangesNothing() {
        CraneGuard x = Sites.inCycle();
        x.addCrane(20, 5, 0);
        x.slew(2, 19, 1);
        x.tick(2);
        long before = x.digest();
        x.undo();
        long earlier = x.digest();
        x.tick(2);
        x.allDone();
        x.done(2);
        x.waits(1, 500);
        x.needs(2);
        x.cycle();
        x.blocker(0);
        Check.due("p19 to p21 change nothing", x.digest(), before);
        Check.due("p19 to p21 are not recorded", x.undo(), 4);
        Check.due("p19 to p21 leave the history", x.digest(), earlier);
    }
}
