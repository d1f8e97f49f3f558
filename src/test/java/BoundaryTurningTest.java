/** The boundary cases of turning, and of the promises 11 to 16. */
final class BoundaryTurningTest {
    private static final String TURNING = "Turning";

    private BoundaryTurningTest() {
    }

    static void run() {
        nextAngle();
        nextAngleOnAStep();
        progress();
        occupies();
        mayBeginAStep();
        mayBeginBesideItself();
        mayBeginIfEachZoneIsFree();
        goneThroughByPriorities();
        goneThroughByNumbers();
        seesWhatWasDone();
        leftToTheWind();
        leftToTheWindWaitsForNobody();
        waits();
        progressAndStep();
        targetReached();
        timeGoesOn();
        slewRanges();
        slewCounts();
        slewShorterWay();
        slewOnAStep();
        stop();
        turnRound();
        turnRoundRefused();
        tickRange();
        tickManyAtOnce();
        tickToTheGreatestTime();
        needs();
        needsFromItsProgress();
    }

    private static void nextAngle() {
        Doc.says(TURNING, "The next angle of a crane is its angle plus its way, modulo 36.");
        for (int angle = 0; angle < 36; angle++) {
            CraneGuard x = Sites.withCranes(angle, angle);
            int far = (angle + 18) % 36;
            x.slew(0, far, 1);
            x.slew(1, far, -1);
            x.tick(1);
            Check.due("clockwise from " + angle, x.crane(0, Sites.ANGLE), angle == 35 ? 0 : angle + 1);
            Check.due("the other way from " + angle, x.crane(1, Sites.ANGLE), angle == 0 ? 35 : angle - 1);
        }
    }

    private static void nextAngleOnAStep() {
        Doc.says(TURNING, "The next angle of a crane is its angle plus its way, modulo 36.");
        int[][] turns = {{35, 1, 0}, {0, -1, 35}, {34, 1, 35}, {1, -1, 0}};
        for (int[] turn : turns) {
            CraneGuard x = new CraneGuard();
            x.addCrane(turn[0], 2, 0);
            x.setArc(0, 0, turn[2], turn[2]);
            x.slew(0, 18, turn[1]);
            Check.due("before the step from " + turn[0], x.occupants(0), 0);
            x.tick(1);
            Check.due("on the step from " + turn[0], x.occupants(0), 1);
            Check.due("its angle still", x.crane(0, Sites.ANGLE), turn[0]);
            x.tick(1);
            Check.due("behind the step", x.crane(0, Sites.ANGLE), turn[2]);
        }
    }

    private static void progress() {
        Doc.says(TURNING, "A crane has a progress, 0 to its pace minus 1, 0 at first; it is on a step if its progress "
                + "is above 0.");
        for (int pace = 1; pace <= 5; pace++) {
            CraneGuard x = new CraneGuard();
            x.addCrane(0, pace, 0);
            Check.due("the progress at first", x.crane(0, Sites.PROGRESS), 0);
            x.slew(0, 20, 1);
            for (int ticks = 1; ticks <= 3 * pace; ticks++) {
                x.tick(1);
                int due = ticks % pace;
                Check.due("the progress with the pace " + pace, x.crane(0, Sites.PROGRESS), due);
                // Only on a step stop() is refused.
                Check.due("stop()", x.stop(0), due > 0 ? Sites.BAD_STATE : 20);
                x.slew(0, 20, 1);
            }
        }
    }

    private static void occupies() {
        Doc.says(TURNING, "A crane occupies a zone if - its arc contains its angle; or it is on a step, and its arc "
                + "contains its next angle; or it is left to the wind (it is not, at first), and has an arc.");
        CraneGuard x = new CraneGuard();
        x.addCrane(10, 2, 0);
        x.setArc(0, 0, 10, 10);
        x.setArc(0, 1, 11, 11);
        x.setArc(0, 2, 12, 12);
        x.setArc(0, 3, 9, 9);
        x.slew(0, 15, 1);
        Check.due("on no step: its angle alone", x.crane(0, Sites.OCCUPIED), 1);
        x.tick(1);
        Check.due("on a step: its next angle, too", x.crane(0, Sites.OCCUPIED), 3);
        x.tick(1);
        Check.due("behind the step: its angle alone", x.crane(0, Sites.OCCUPIED), 2);
        Check.due("it is not left at first", x.crane(0, Sites.LEFT), 0);
        x.leave(0, true);
        Check.due("left: all zones in which it has an arc", x.crane(0, Sites.OCCUPIED), 15);
        x.removeArc(0, 1);
        Check.due("left: none without an arc", x.crane(0, Sites.OCCUPIED), 13);
        x.leave(0, false);
        Check.due("taken back: what is at its angle", x.crane(0, Sites.OCCUPIED), 0);
    }

    private static void mayBeginAStep() {
        Doc.says(TURNING, "A crane may begin a step if each zone whose arc of this crane contains its next angle is "
                + "occupied by no other crane.");
        for (int zone = 0; zone < 6; zone++) {
            for (int other = 1; other < 4; other++) {
                for (int at : new int[] {8, 9, 11, 12}) {
                    CraneGuard x = Sites.withCranes(10, 20, 20, 20);
                    x.setArc(other, zone, 20, 20);
                    x.setArc(0, zone, at, at);
                    x.slew(0, 15, 1);
                    x.tick(1);
                    Check.due("with an arc at " + at, x.crane(0, Sites.ANGLE), at == 11 ? 10 : 11);
                }
            }
        }
    }

    private static void mayBeginBesideItself() {
        Doc.says(TURNING, "occupied by no other crane.");
        CraneGuard x = Sites.withCranes(10);
        x.setArc(0, 0, 10, 12);
        x.slew(0, 15, 1);
        x.tick(1);
        Check.due("its own zone does not hold it", x.crane(0, Sites.ANGLE), 11);
        // Nor does a conflict, if the next angle is out of the zone.
        CraneGuard y = BoundaryCranesTest.occupiedBy(3, 0);
        y.tick(1);
        Check.due("out of a conflict", y.crane(0, Sites.ANGLE), 12);
        // In a conflict, a crane may not go on into the zone.
        CraneGuard z = BoundaryCranesTest.occupiedBy(3, 0);
        z.setArc(0, 0, 11, 12);
        z.tick(1);
        Check.due("on into a conflict", z.crane(0, Sites.ANGLE), 11);
    }

    private static void mayBeginIfEachZoneIsFree() {
        Doc.says(TURNING, "if each zone whose arc of this crane contains its next angle");
        for (int locked = -1; locked < 6; locked++) {
            CraneGuard x = Sites.withCranes(10, 20);
            for (int zone = 0; zone < 6; zone++) {
                x.setArc(0, zone, 11, 11);
                int angle = zone == locked ? 20 : 19;
                x.setArc(1, zone, angle, angle);
            }
            x.slew(0, 15, 1);
            x.tick(1);
            Check.due("with zone " + locked + " locked", x.crane(0, Sites.ANGLE), locked < 0 ? 11 : 10);
            Check.due("its wait", x.crane(0, Sites.WAIT), locked < 0 ? 0 : 1);
        }
    }

    /** All four cranes need the one zone for their next step, with these priorities. */
    private static CraneGuard fourForOneZone(int... priorities) {
        CraneGuard x = new CraneGuard();
        for (int crane = 0; crane < 4; crane++) {
            x.addCrane(10, 1, priorities[crane]);
            x.setArc(crane, 0, 11, 11);
            x.slew(crane, 20, 1);
        }
        return x;
    }

    private static void goneThroughByPriorities() {
        Doc.says(TURNING, "In a tick, the cranes are gone through by descending priorities,");
        int[][] priorities = {{0, 1, 2, 3}, {3, 2, 1, 0}, {8, 9, 0, 7}, {0, 9, 8, 1}, {4, 5, 6, 9}, {9, 0, 1, 2}};
        for (int[] p : priorities) {
            CraneGuard x = fourForOneZone(p);
            dueInOrder(x, p);
        }
        CraneGuard changed = fourForOneZone(0, 0, 0, 0);
        changed.setPriority(3, 9);
        changed.setPriority(1, 8);
        dueInOrder(changed, new int[] {0, 8, 0, 9});
    }

    private static void goneThroughByNumbers() {
        Doc.says(TURNING, "those with equal priorities by ascending numbers;");
        int[][] priorities = {{0, 0, 0, 0}, {9, 9, 9, 9}, {0, 5, 5, 5}, {5, 0, 5, 0}, {3, 3, 4, 4}, {0, 0, 0, 9}};
        for (int[] p : priorities) {
            dueInOrder(fourForOneZone(p), p);
        }
    }

    /** The one that goes first has the zone; behind the tick in which it leaves it, the next one has it. */
    private static void dueInOrder(CraneGuard x, int[] priorities) {
        boolean[] through = new boolean[4];
        for (int turn = 0; turn < 4; turn++) {
            int next = -1;
            for (int crane = 0; crane < 4; crane++) {
                if (!through[crane] && (next < 0 || priorities[crane] > priorities[next])) {
                    next = crane;
                }
            }
            through[next] = true;
            x.tick(1);
            Check.due("turn " + turn + " of the order", x.occupants(0), 1 << next);
            Check.due("its wait", x.crane(next, Sites.WAIT), turn);
        }
    }

    private static void seesWhatWasDone() {
        Doc.says(TURNING, "each one sees what those before it have done in this tick:");
        for (int pace = 1; pace <= 3; pace++) {
            // Crane 0 enters the zone; crane 1, behind it, may not begin in the same tick.
            CraneGuard x = new CraneGuard();
            x.addCrane(10, pace, 0);
            x.addCrane(10, 1, 0);
            x.setArc(0, 0, 11, 11);
            x.setArc(1, 0, 11, 11);
            x.slew(0, 13, 1);
            x.slew(1, 13, 1);
            x.tick(1);
            Check.due("the one before has begun", x.occupants(0), 1);
            Check.due("the one behind it waits", x.crane(1, Sites.WAIT), 1);
            x.tick(2 * pace - 2);
            Check.due("it waits as long as the zone is locked", x.crane(1, Sites.WAIT), 2 * pace - 1);
            x.tick(1);
            Check.due("it begins in the tick in which the zone is left", x.occupants(0), 2);
            Check.due("it waits no more", x.crane(1, Sites.WAIT), 2 * pace - 1);
        }
    }

    private static void leftToTheWind() {
        Doc.says(TURNING, "- A crane that is left to the wind: if its angle is not that of the wind (0 at first), it "
                + "turns by one angle towards it, the shorter way, clockwise if both ways are as long.");
        for (int from = 0; from < 36; from++) {
            CraneGuard x = Sites.withCranes(from);
            x.leave(0, true);
            for (int wind = 0; wind < 36; wind++) {
                if (wind > 0) {
                    x.setWind(wind);
                }
                int clockwise = wind >= from ? wind - from : wind - from + 36;
                int due = clockwise == 0 ? from : clockwise <= 18 ? from + 1 : from - 1;
                x.tick(1);
                Check.due("from " + from + " to " + wind, x.crane(0, Sites.ANGLE), due == 36 ? 0 : due < 0 ? 35 : due);
                x.undo();
            }
        }
    }

    private static void leftToTheWindWaitsForNobody() {
        Doc.says(TURNING, "it turns by one angle towards it,");
        // With any pace by one angle a tick, through the zones of others, and without waiting.
        CraneGuard x = new CraneGuard();
        x.addCrane(3, 5, 0);
        x.addCrane(20, 1, 9);
        x.setArc(0, 0, 2, 2);
        x.leave(0, true);
        x.setArc(1, 0, 21, 21);
        x.slew(1, 25, 1);
        x.override(1, 1);
        x.stop(1);
        Check.due("conflicts()", x.conflicts(), 1);
        for (int angle = 2; angle >= 0; angle--) {
            x.tick(1);
            Check.due("its angle", x.crane(0, Sites.ANGLE), angle);
        }
        x.tick(1);
        Check.due("it stays at the wind", x.crane(0, Sites.ANGLE), 0);
        Check.due("its wait", x.crane(0, Sites.WAIT), 0);
        Check.due("its progress", x.crane(0, Sites.PROGRESS), 0);
    }

    private static void waits() {
        Doc.says(TURNING, "- A crane with a target: if it is on no step and may not begin one, it waits, and its wait, "
                + "0 at first, increases by 1.");
        CraneGuard x = Sites.inCycle();
        Check.due("its wait at first", x.crane(0, Sites.WAIT), 0);
        for (int wait = 1; wait <= 3; wait++) {
            x.tick(1);
            Check.due("its wait", x.crane(0, Sites.WAIT), wait);
            Check.due("it stays", x.crane(0, Sites.ANGLE), 3);
            Check.due("its progress", x.crane(0, Sites.PROGRESS), 0);
        }
        x.stop(0);
        x.tick(5);
        Check.due("without a target it does not wait", x.crane(0, Sites.WAIT), 3);
        CraneGuard y = Boundary.busy();
        y.tick(200);
        Check.due("the wait of a crane without a target", y.crane(0, Sites.WAIT), 0);
        Check.due("the wait of a crane that never waited", y.crane(1, Sites.WAIT), 0);
        Check.due("the wait of a crane left", y.crane(2, Sites.WAIT), 0);
        Check.due("the wait of a blocked crane", y.crane(3, Sites.WAIT), 201);
    }

    private static void progressAndStep() {
        Doc.says(TURNING, "Otherwise its progress increases by 1; if it is equal to its pace then, its angle becomes "
                + "its next angle, and its progress 0.");
        // On a step it goes on, also if another one has come into the zone by an override.
        CraneGuard x = new CraneGuard();
        x.addCrane(10, 5, 0);
        x.addCrane(20, 1, 0);
        x.setArc(0, 0, 11, 11);
        x.setArc(1, 0, 21, 21);
        x.slew(0, 12, 1);
        x.slew(1, 25, 1);
        x.tick(1);
        x.override(1, 1);
        x.stop(1);
        for (int ticks = 2; ticks <= 4; ticks++) {
            x.tick(1);
            Check.due("its progress", x.crane(0, Sites.PROGRESS), ticks);
            Check.due("its angle", x.crane(0, Sites.ANGLE), 10);
        }
        x.tick(1);
        Check.due("its progress behind the step", x.crane(0, Sites.PROGRESS), 0);
        Check.due("its angle behind the step", x.crane(0, Sites.ANGLE), 11);
        Check.due("its wait", x.crane(0, Sites.WAIT), 0);
        CraneGuard idle = new CraneGuard();
        idle.addCrane(10, 5, 0);
        idle.tick(7);
        Check.due("without a target there is no progress", idle.crane(0, Sites.PROGRESS), 0);
    }

    private static void targetReached() {
        Doc.says(TURNING, "If its angle is its target then, it has no target any more.");
        int[][] turns = {{10, 11, 1}, {10, 9, -1}, {35, 0, 1}, {0, 35, -1}, {10, 11, -1}, {10, 9, 1}};
        for (int[] turn : turns) {
            CraneGuard x = new CraneGuard();
            x.addCrane(turn[0], 2, 0);
            int steps = x.slew(0, turn[1], turn[2]);
            x.tick(2 * steps - 1);
            Check.due("one tick before", x.crane(0, Sites.TARGET), turn[1]);
            x.tick(1);
            Check.due("its target then", x.crane(0, Sites.TARGET), Sites.NONE);
            x.tick(5);
            Check.due("it stays there", x.crane(0, Sites.ANGLE), turn[1]);
            Check.due("its steps", x.crane(0, Sites.STEPS), steps);
        }
    }

    private static void timeGoesOn() {
        Doc.says(TURNING, "Then the time, 0 at first, increases by 1.");
        Doc.says(15, "Returns the time.");
        CraneGuard x = new CraneGuard();
        Check.due("time() at first", x.time(), 0);
        for (int time = 1; time <= 3; time++) {
            x.tick(1);
            Check.due("time()", x.time(), time);
        }
        CraneGuard busy = Boundary.busyWithTenNotes();
        Check.due("no call but tick() takes time", busy.time(), 1);
        busy.allDone();
        busy.done(1);
        busy.waits(3, 1000);
        Check.due("nor does foretelling", busy.time(), 1);
    }

    private static void slewRanges() {
        Doc.says(11, "BAD_VALUE if target or way is out of range;");
        Doc.says(11, "- `target`: 0 to 35");
        Boundary.range("target", Boundary::busy, (x, v) -> x.slew(3, v, 1), 0, 35, Sites.BAD_VALUE);
        Doc.says(11, "- `way`: 1, -1, or 0 for the shorter way");
        Boundary.range("way", Boundary::busy, (x, v) -> x.slew(3, 1, v), -1, 1, Sites.BAD_VALUE);
        // Also where no way is needed.
        Boundary.range("way", Boundary::busy, (x, v) -> x.slew(0, 0, v), -1, 1, Sites.BAD_VALUE);
    }

    private static void slewCounts() {
        Doc.says(11, "Gives a crane a target.");
        Doc.says(11, "Returns how many steps it is to the target that way (0 if it is there: it has no target then);");
        for (int angle = 0; angle < 36; angle++) {
            CraneGuard x = Sites.withCranes(angle);
            for (int target = 0; target < 36; target++) {
                int clockwise = target >= angle ? target - angle : target - angle + 36;
                int back = clockwise == 0 ? 0 : 36 - clockwise;
                int due = target == angle ? Sites.NONE : target;
                x.slew(0, (angle + 5) % 36, 1);
                Check.due("slew(0, " + target + ", 1)", x.slew(0, target, 1), clockwise);
                Check.due("its target", x.crane(0, Sites.TARGET), due);
                x.slew(0, (angle + 5) % 36, 1);
                Check.due("slew(0, " + target + ", -1)", x.slew(0, target, -1), back);
                Check.due("its target", x.crane(0, Sites.TARGET), due);
            }
        }
    }

    private static void slewShorterWay() {
        Doc.says(11, "0 for the shorter way (1 if both are as long)");
        for (int angle = 0; angle < 36; angle++) {
            CraneGuard x = Sites.withCranes(angle);
            for (int steps = 0; steps < 36; steps++) {
                int target = (angle + steps) % 36;
                Check.due("slew(0, " + target + ", 0)", x.slew(0, target, 0), Math.min(steps, 36 - steps));
                Check.due("its way", x.crane(0, Sites.WAY), steps == 0 ? 0 : steps <= 18 ? 1 : -1);
            }
        }
    }

    private static void slewOnAStep() {
        Doc.says(11, "BAD_STATE if the crane is on a step, or left to the wind.");
        Boundary.refused("slew() on a step", Boundary::busy, x -> x.slew(1, 20, 1), Sites.BAD_STATE);
        Boundary.refused("slew() to its target on a step", Boundary::busy, x -> x.slew(1, 15, 1), Sites.BAD_STATE);
        Boundary.refused("slew() to its angle on a step", Boundary::busy, x -> x.slew(1, 10, 0), Sites.BAD_STATE);
        Boundary.refused("slew() left to the wind", Boundary::busy, x -> x.slew(2, 5, 1), Sites.BAD_STATE);
        Boundary.refused("slew() to its angle, left", Boundary::busy, x -> x.slew(2, 21, 1), Sites.BAD_STATE);
        Check.due("slew() of a blocked crane", Boundary.busy().slew(3, 29, -1), 1);
        Check.due("slew() without a target", Boundary.busy().slew(0, 1, -1), 35);
        CraneGuard x = Boundary.busy();
        x.tick(2);
        Check.due("slew() behind the step", x.slew(1, 10, -1), 1);
        x.leave(2, false);
        Check.due("slew() when taken back", x.slew(2, 0, 1), 36 - x.crane(2, Sites.ANGLE));
    }

    private static void stop() {
        Doc.says(12, "Takes the target of a crane away.");
        Doc.says(12, "Returns the target;");
        for (int target : new int[] {0, 35}) {
            CraneGuard x = Sites.withCranes(17);
            x.slew(0, target, 1);
            Check.due("stop()", x.stop(0), target);
            Check.due("its target then", x.crane(0, Sites.TARGET), Sites.NONE);
            Check.due("its way then", x.crane(0, Sites.WAY), 0);
            x.tick(3);
            Check.due("it stays", x.crane(0, Sites.ANGLE), 17);
        }
        Doc.says(12, "NONE if it had none;");
        Check.due("stop() without a target", Boundary.busy().stop(0), Sites.NONE);
        Check.due("stop() left to the wind", Boundary.busy().stop(2), Sites.NONE);
        Doc.says(12, "BAD_STATE if the crane is on a step.");
        Boundary.refused("stop()", Boundary::busy, x -> x.stop(1), Sites.BAD_STATE);
        CraneGuard x = Boundary.busy();
        x.tick(1);
        Check.due("stop() on the step's last tick", x.stop(1), Sites.BAD_STATE);
        x.tick(1);
        Check.due("stop() behind the step", x.stop(1), 15);
    }

    private static void turnRound() {
        Doc.says(13, "Turns the way of a crane round.");
        Doc.says(13, "Returns how many steps it is to the target then;");
        for (int angle = 0; angle < 36; angle++) {
            CraneGuard x = Sites.withCranes(angle);
            for (int steps = 1; steps < 36; steps++) {
                x.slew(0, (angle + steps) % 36, 1);
                Check.due("turnRound() of " + steps, x.turnRound(0), 36 - steps);
                Check.due("its way", x.crane(0, Sites.WAY), -1);
                Check.due("turnRound() again", x.turnRound(0), steps);
                Check.due("its way", x.crane(0, Sites.WAY), 1);
            }
        }
    }

    private static void turnRoundRefused() {
        Doc.says(13, "BAD_STATE if it has no target, or is on a step.");
        Boundary.refused("turnRound() without a target", Boundary::busy, x -> x.turnRound(0), Sites.BAD_STATE);
        Boundary.refused("turnRound() on a step", Boundary::busy, x -> x.turnRound(1), Sites.BAD_STATE);
        Boundary.refused("turnRound() left to the wind", Boundary::busy, x -> x.turnRound(2), Sites.BAD_STATE);
        Check.due("turnRound() of a blocked crane", Boundary.busy().turnRound(3), 33);
        CraneGuard x = Boundary.busy();
        x.tick(2);
        Check.due("turnRound() behind the step", x.turnRound(1), 32);
        x.slew(1, 10, -1);
        x.tick(3);
        Check.due("turnRound() at the target", x.turnRound(1), Sites.BAD_STATE);
    }

    private static void tickRange() {
        Doc.says(14, "- `many`: 1 to 200");
        Doc.says(14, "BAD_VALUE if many is out of range;");
        Boundary.range("many", Boundary::busy, CraneGuard::tick, 1, 200, Sites.BAD_VALUE);
        Doc.says(14, "Returns the time then;");
        Check.due("tick(1)", Boundary.busy().tick(1), 2);
        Check.due("tick(200)", Boundary.busy().tick(200), 201);
    }

    private static void tickManyAtOnce() {
        Doc.says(14, "Does ticks.");
        for (int many = 1; many <= 200; many += 33) {
            CraneGuard x = Boundary.busy();
            CraneGuard y = Boundary.busy();
            x.tick(many);
            for (int k = 0; k < many; k++) {
                y.tick(1);
            }
            Check.due("tick(" + many + "), then digest()", x.digest(), y.digest());
        }
    }

    private static void tickToTheGreatestTime() {
        Doc.says(14, "FULL if the time would be above 100000.");
        CraneGuard x = new CraneGuard();
        for (int k = 1; k < 500; k++) {
            x.tick(200);
        }
        x.tick(199);
        Check.due("tick(2) at 99999", x.tick(2), Sites.FULL);
        Check.due("tick(200) at 99999", x.tick(200), Sites.FULL);
        Check.due("time() behind what was refused", x.time(), 99999);
        Check.due("undo() behind what was refused", x.undo(), 4);
        Check.due("tick(200) to the greatest time", x.tick(200), 100000);
        Check.due("tick(1) at the greatest time", x.tick(1), Sites.FULL);
        Check.due("tick(0) at the greatest time", x.tick(0), Sites.BAD_VALUE);
        Check.due("tick(201) at the greatest time", x.tick(201), Sites.BAD_VALUE);
    }

    private static void needs() {
        Doc.says(16, "Returns the ticks; 0 if it has no target;");
        Check.due("needs() without a target", Boundary.busy().needs(0), 0);
        Check.due("needs() left to the wind", Boundary.busy().needs(2), 0);
        for (int pace = 1; pace <= 5; pace++) {
            for (int steps = 1; steps <= 35; steps++) {
                CraneGuard x = new CraneGuard();
                x.addCrane(20, pace, 0);
                x.slew(0, (20 + steps) % 36, 1);
                Check.due("needs() clockwise", x.needs(0), steps * pace);
                x.turnRound(0);
                Check.due("needs() the other way", x.needs(0), (36 - steps) * pace);
                x.tick(x.needs(0));
                Check.due("needs() at the target", x.needs(0), 0);
                Check.due("it is there", x.crane(0, Sites.ANGLE), (20 + steps) % 36);
            }
        }
    }

    private static void needsFromItsProgress() {
        Doc.says(16, "Tells how many ticks a crane needs to its target, if it never waits, from its progress on.");
        CraneGuard x = new CraneGuard();
        x.addCrane(20, 5, 0);
        x.slew(0, 19, 1);
        for (int left = 175; left >= 0; left--) {
            Check.due("needs()", x.needs(0), left);
            x.tick(1);
        }
        CraneGuard blocked = Boundary.busy();
        Check.due("needs() of a blocked crane", blocked.needs(3), 3);
        blocked.tick(200);
        Check.due("needs() of a crane that has waited", blocked.needs(3), 3);
    }
}
