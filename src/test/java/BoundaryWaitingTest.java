/** The boundary cases of blocked cranes and of what is foretold: the promises 17 to 21. */
final class BoundaryWaitingTest {
    private static final String TURNING = "Turning";
    private static final String FORETELLS = "Foretells, changing nothing (and without a greatest time),";

    private BoundaryWaitingTest() {
    }

    static void run() {
        blockedWithATarget();
        blockedOnNoStep();
        blockedByEachZone();
        blockerIsTheLowest();
        blockerIsAnother();
        cycleOfTwoToFour();
        cycleWithoutThoseBehindIt();
        cycleNeedsBlockedCranes();
        twoCycles();
        allDone();
        allDoneWithTheWind();
        done();
        waitsRange();
        waits();
        foretellsWithoutAGreatestTime();
        foretellsChangingNothing();
    }

    private static void blockedWithATarget() {
        Doc.says(TURNING, "A crane is blocked if it has a target,");
        Doc.says(17, "Returns the blocker of a crane.");
        Doc.says(17, "NONE if the crane is not blocked;");
        CraneGuard x = Boundary.busy();
        Check.due("blocker() of a blocked crane", x.blocker(3), 2);
        x.stop(3);
        Check.due("blocker() without a target", x.blocker(3), Sites.NONE);
        x.slew(3, 29, -1);
        Check.due("blocker() the other way", x.blocker(3), Sites.NONE);
        x.turnRound(3);
        Check.due("blocker() turned round", x.blocker(3), 2);
        Check.due("blocker() of a crane that never had a target", x.blocker(0), Sites.NONE);
        Check.due("blocker() of a crane left", x.blocker(2), Sites.NONE);
        // Also not if another one is in the zone at its angle.
        CraneGuard y = BoundaryCranesTest.occupiedBy(15, 5);
        for (int crane = 0; crane < 4; crane++) {
            y.stop(crane);
            Check.due("blocker() without a target, in a conflict", y.blocker(crane), Sites.NONE);
        }
        y.tick(3);
        Check.due("conflicts()", y.conflicts(), 32);
        Check.due("the wait without a target, in a conflict", y.crane(3, Sites.WAIT), 0);
        Check.due("cycle() of cranes without targets", y.cycle(), 0);
    }

    private static void blockedOnNoStep() {
        Doc.says(TURNING, "is on no step, and may not begin one;");
        CraneGuard x = onAStepIntoAConflict();
        Check.due("on a step", x.crane(0, Sites.PROGRESS), 1);
        Check.due("with another one in the zone", x.conflicts(), 1);
        Check.due("it is not blocked", x.blocker(0), Sites.NONE);
        x.tick(1);
        Check.due("on no step", x.crane(0, Sites.PROGRESS), 0);
        Check.due("it may not begin one", x.blocker(0), 1);
        x.removeArc(1, 0);
        Check.due("it may begin one", x.blocker(0), Sites.NONE);
    }

    /** Crane 0 is on a step into zone 0, and crane 1 has come into it by an override. */
    private static CraneGuard onAStepIntoAConflict() {
        CraneGuard x = new CraneGuard();
        x.addCrane(10, 2, 0);
        x.addCrane(20, 1, 0);
        x.setArc(0, 0, 11, 12);
        x.setArc(1, 0, 21, 21);
        x.slew(0, 15, 1);
        x.tick(1);
        x.slew(1, 25, 1);
        x.override(1, 1);
        x.stop(1);
        return x;
    }

    private static void blockedByEachZone() {
        Doc.says(TURNING, "its blocker is the lowest other crane that occupies a zone whose arc of the blocked crane "
                + "contains its next angle.");
        for (int crane = 0; crane < 4; crane++) {
            for (int zone = 0; zone < 6; zone++) {
                for (int other = 0; other < 4; other++) {
                    CraneGuard x = Sites.withCranes(10, 10, 10, 10);
                    if (other != crane) {
                        x.setArc(other, zone, 10, 10);
                        x.setArc(crane, zone, 11, 11);
                        x.slew(crane, 20, 1);
                        Check.due("blocker(" + crane + ")", x.blocker(crane), other);
                    }
                }
            }
        }
    }

    private static void blockerIsTheLowest() {
        Doc.says(TURNING, "its blocker is the lowest other crane");
        Doc.says(17, "Returns its number;");
        for (int crane = 0; crane < 4; crane++) {
            for (int others = 0; others < 16; others++) {
                CraneGuard x = Sites.withCranes(10, 10, 10, 10);
                int due = Sites.NONE;
                for (int other = 3; other >= 0; other--) {
                    if (other != crane && (others >> other & 1) == 1) {
                        // A zone of its own for each, so that the lowest crane is in the highest zone.
                        x.setArc(other, 5 - other, 10, 10);
                        x.setArc(crane, 5 - other, 11, 11);
                        due = other;
                    }
                }
                x.slew(crane, 20, 1);
                Check.due("blocker(" + crane + ") of " + others, x.blocker(crane), due);
            }
        }
    }

    private static void blockerIsAnother() {
        Doc.says(TURNING, "lowest other crane that occupies a zone");
        CraneGuard x = Sites.withCranes(10, 20);
        x.setArc(0, 0, 9, 12);
        x.setArc(1, 0, 0, 0);
        x.slew(0, 15, 1);
        Check.due("no crane blocks itself", x.blocker(0), Sites.NONE);
        x.removeArc(0, 0);
        x.setArc(1, 0, 20, 20);
        Check.due("without an arc no zone blocks", x.blocker(0), Sites.NONE);
        x.setArc(0, 0, 12, 9);
        Check.due("nor does an arc beside the next angle", x.blocker(0), Sites.NONE);
    }

    /** Each of the cranes stands in its own zone and needs that of the next one. */
    private static CraneGuard inCycleOf(int many) {
        CraneGuard x = Sites.withCranes(10, 10, 10, 10);
        for (int crane = 0; crane < many; crane++) {
            x.setArc(crane, crane, 10, 10);
            x.setArc(crane, (crane + 1) % many, 11, 11);
            x.slew(crane, 20, 1);
        }
        return x;
    }

    private static void cycleOfTwoToFour() {
        Doc.says(TURNING, "A cycle is a set of blocked cranes that one comes back to, going from each to its blocker.");
        Doc.says(18, "Returns the cranes that are in a cycle.");
        Doc.says(18, "Returns the set of cranes.");
        Check.due("cycle() without cranes", new CraneGuard().cycle(), 0);
        Check.due("cycle() of one crane", Sites.withCranes(3).cycle(), 0);
        for (int many = 2; many <= 4; many++) {
            CraneGuard x = inCycleOf(many);
            Check.due("cycle() of " + many, x.cycle(), (1 << many) - 1);
            Check.due("allDone() in a cycle", x.allDone(), Sites.NONE);
            x.tick(1);
            Check.due("cycle() a tick later", x.cycle(), (1 << many) - 1);
        }
    }

    private static void cycleWithoutThoseBehindIt() {
        Doc.says(18, "Returns the cranes that are in a cycle.");
        // The other cranes wait for the cycle, one behind the other, in each order of their numbers.
        int[][] orders = {{0, 1, 2, 3}, {2, 3, 0, 1}, {3, 0, 1, 2}, {1, 3, 2, 0}};
        for (int[] order : orders) {
            CraneGuard x = Sites.withCranes(10, 10, 10, 10);
            for (int k = 0; k < 4; k++) {
                x.setArc(order[k], k, 10, 10);
            }
            int[] needs = {1, 0, 0, 2};
            for (int k = 0; k < 4; k++) {
                x.setArc(order[k], needs[k], 11, 11);
                x.slew(order[k], 20, 1);
            }
            for (int k = 0; k < 4; k++) {
                Check.due("blocker()", x.blocker(order[k]), order[needs[k]]);
            }
            Check.due("cycle()", x.cycle(), 1 << order[0] | 1 << order[1]);
        }
    }

    private static void cycleNeedsBlockedCranes() {
        Doc.says(TURNING, "A cycle is a set of blocked cranes");
        for (int many = 2; many <= 4; many++) {
            for (int open = 0; open < many; open++) {
                CraneGuard x = inCycleOf(many);
                x.stop(open);
                Check.due("cycle() with one stopped", x.cycle(), 0);
                CraneGuard y = inCycleOf(many);
                y.turnRound(open);
                Check.due("cycle() with one turned round", y.cycle(), 0);
            }
        }
    }

    private static void twoCycles() {
        Doc.says(18, "Returns the set of cranes.");
        CraneGuard x = Sites.withCranes(10, 10, 10, 10);
        int[] partner = {2, 3, 0, 1};
        for (int crane = 0; crane < 4; crane++) {
            x.setArc(crane, crane, 10, 10);
            x.setArc(crane, partner[crane], 11, 11);
            x.slew(crane, 20, 1);
        }
        Check.due("cycle() of two cycles", x.cycle(), 15);
        x.stop(2);
        Check.due("cycle() of one of them", x.cycle(), 10);
    }

    private static void allDone() {
        Doc.says(19, FORETELLS + " after how many ticks no crane has a target any more.");
        Doc.says(19, "Returns the number, 0 to 1000; NONE if that is not so after 1000 ticks.");
        Check.due("allDone() without cranes", new CraneGuard().allDone(), 0);
        Check.due("allDone() without targets", Sites.withCranes(1, 2, 3, 4).allDone(), 0);
        Check.due("allDone() in a cycle", inCycleOf(2).allDone(), Sites.NONE);
        CraneGuard beside = inCycleOf(2);
        beside.slew(3, 9, 1);
        Check.due("allDone() beside a cycle", beside.allDone(), Sites.NONE);
        for (int crane = 0; crane < 4; crane++) {
            CraneGuard x = Sites.withCranes(10, 10, 10, 10);
            x.slew(crane, 11, 1);
            Check.due("allDone() with one target", x.allDone(), 1);
            x.slew((crane + 1) % 4, 13, 1);
            Check.due("allDone() counts the last one", x.allDone(), 3);
            x.tick(3);
            Check.due("allDone() at the targets", x.allDone(), 0);
        }
        // One behind the other, by the longest ways and the slowest paces.
        CraneGuard slow = new CraneGuard();
        for (int crane = 0; crane < 4; crane++) {
            slow.addCrane(0, 5, 0);
            slow.setArc(crane, 5, 1, 34);
            slow.slew(crane, 35, 1);
        }
        Check.due("allDone() of the slowest", slow.allDone(), 3 * 174 + 175);
        slow.tick(200);
        Check.due("allDone() 200 ticks later", slow.allDone(), 3 * 174 + 175 - 200);
    }

    private static void allDoneWithTheWind() {
        Doc.says(19, "after how many ticks no crane has a target any more.");
        CraneGuard x = Sites.withCranes(18, 3);
        x.leave(0, true);
        Check.due("a crane that the wind turns has no target", x.allDone(), 0);
        Check.due("nor is it waited for", x.done(0), 0);
        x.slew(1, 5, 1);
        Check.due("allDone() beside it", x.allDone(), 2);
        Check.due("allDone() of a crane behind one left", Boundary.busy().allDone(), Sites.NONE);
    }

    private static void done() {
        Doc.says(20, FORETELLS + " after how many ticks a crane has no target any more.");
        Doc.says(20, "Returns the number, 0 to 1000; NONE if that is not so after 1000 ticks;");
        CraneGuard x = Boundary.busy();
        Check.due("done() without a target", x.done(0), 0);
        Check.due("done() from its progress on", x.done(1), 14);
        Check.due("done() left to the wind", x.done(2), 0);
        Check.due("done() of a blocked crane", x.done(3), Sites.NONE);
        x.tick(13);
        Check.due("done() one tick before", x.done(1), 1);
        x.tick(1);
        Check.due("done() at the target", x.done(1), 0);
        CraneGuard slow = new CraneGuard();
        for (int crane = 0; crane < 4; crane++) {
            slow.addCrane(0, 5, crane);
            slow.setArc(crane, 5, 1, 34);
            slow.slew(crane, 35, 1);
        }
        for (int crane = 0; crane < 4; crane++) {
            Check.due("done() one behind the other", slow.done(crane), (3 - crane) * 174 + 175);
        }
    }

    private static void waitsRange() {
        Doc.says(21, "- `many`: 1 to 1000");
        Doc.says(21, "BAD_VALUE if many is out of range.");
        for (int bad : new int[] {0, -1, -1000, 1001, 2000, Integer.MIN_VALUE, Integer.MAX_VALUE}) {
            Boundary.refused("waits(3, " + bad + ")", Boundary::busy, x -> x.waits(3, bad), Sites.BAD_VALUE);
            Boundary.refused("waits(0, " + bad + ")", Boundary::busy, x -> x.waits(0, bad), Sites.BAD_VALUE);
        }
        for (int many : new int[] {1, 2, 999, 1000}) {
            Check.due("waits(3, " + many + ")", Boundary.busy().waits(3, many), many);
            Check.due("waits(1, " + many + ")", Boundary.busy().waits(1, many), 0);
        }
    }

    private static void waits() {
        Doc.says(21, FORETELLS + " how long a crane waits in the next ticks.");
        Doc.says(21, "Returns by how much its wait increases;");
        for (int pace = 1; pace <= 5; pace++) {
            CraneGuard x = new CraneGuard();
            x.addCrane(0, pace, 1);
            x.addCrane(0, 1, 0);
            x.setArc(0, 0, 1, 30);
            x.setArc(1, 0, 1, 30);
            x.slew(0, 35, 1);
            x.slew(1, 35, 1);
            int until = 31 * pace - 1;
            for (int many : new int[] {1, until - 1, until, until + 1, 1000}) {
                Check.due("waits(1, " + many + ")", x.waits(1, many), Math.min(many, until));
            }
            Check.due("waits() without a target", Boundary.busy().waits(0, 1000), 0);
            x.tick(20);
            Check.due("waits() does not count what was", x.waits(1, 1000), until - 20);
        }
        // The cranes turn on beside one that waits for ever.
        CraneGuard beside = inCycleOf(2);
        beside.slew(3, 9, 1);
        for (int many : new int[] {1, 34, 35, 36, 1000}) {
            Check.due("waits(0, " + many + ") beside one that turns", beside.waits(0, many), many);
            Check.due("waits(3, " + many + ")", beside.waits(3, many), 0);
        }
    }

    private static void foretellsWithoutAGreatestTime() {
        Doc.says(19, "(and without a greatest time)");
        Doc.says(20, "(and without a greatest time)");
        Doc.says(21, "(and without a greatest time)");
        CraneGuard x = new CraneGuard();
        x.addCrane(0, 5, 0);
        x.addCrane(0, 1, 0);
        x.setArc(0, 0, 0, 0);
        x.setArc(1, 0, 1, 1);
        for (int k = 0; k < 500; k++) {
            x.tick(200);
        }
        x.slew(1, 1, 1);
        Check.due("waits() at the greatest time", x.waits(1, 1000), 1000);
        x.slew(0, 35, 1);
        Check.due("allDone() at the greatest time", x.allDone(), 175);
        Check.due("done() at the greatest time", x.done(1), 5);
        Check.due("time()", x.time(), 100000);
    }

    private static void foretellsChangingNothing() {
        Doc.says(19, "Foretells, changing nothing");
        Boundary.changesNothing("allDone()", Boundary::busy, CraneGuard::allDone, Sites.NONE);
        Doc.says(20, "Foretells, changing nothing");
        Boundary.changesNothing("done()", Boundary::busy, x -> x.done(1), 14);
        Doc.says(21, "Foretells, changing nothing");
        Boundary.changesNothing("waits()", Boundary::busy, x -> x.waits(3, 1000), 1000);
    }
}
