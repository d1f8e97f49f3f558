/** The boundary cases of cranes, arcs and zones: of 'Cranes, zones', and of the promises 1 to 10. */
final class BoundaryCranesTest {
    private static final String ZONES = "Description";

    private BoundaryCranesTest() {
    }

    static void run() {
        atMostFourCranes();
        angleIsZeroTo35();
        paceIsTicksForAStep();
        priorityIsZeroTo9();
        targetAndWay();
        sixZones();
        noArcsAtFirst();
        arcWithBothEnds();
        arcOfOneAngle();
        fullSite();
        fullSiteLeft();
        newSite();
        newSitesAreApart();
        addCraneAnew();
        addCraneRanges();
        addCraneWhenFull();
        setPriority();
        setArcRanges();
        setArcCounts();
        setArcOfACraneLeft();
        setArcIntoAConflict();
        setArcInAConflict();
        setArcByWhicheverCranes();
        removeArc();
        cranes();
        craneRanges();
        craneWithoutATarget();
        craneZones();
        craneSteps();
        arcLimits();
        occupants();
        conflicts();
    }

    private static void atMostFourCranes() {
        Doc.says(ZONES, "There are at most 4 cranes, numbered from 0.");
        CraneGuard x = new CraneGuard();
        for (int crane = 0; crane < 4; crane++) {
            Check.due("crane() of the next one", x.crane(crane, Sites.ANGLE), Sites.BAD_INDEX);
            Check.due("addCrane()", x.addCrane(crane, 1, 0), crane);
            Check.due("crane() of the new one", x.crane(crane, Sites.ANGLE), crane);
        }
        Check.due("addCrane() of a fifth one", x.addCrane(4, 1, 0), Sites.FULL);
        Check.due("crane() of a fifth one", x.crane(4, Sites.ANGLE), Sites.BAD_INDEX);
        Check.due("crane(-1)", x.crane(-1, Sites.ANGLE), Sites.BAD_INDEX);
    }

    private static void angleIsZeroTo35() {
        Doc.says(ZONES, "The jib of a crane has an angle, 0 to 35 (36 steps are a full turn, clockwise).");
        CraneGuard x = Sites.withCranes(0);
        x.slew(0, 35, 1);
        for (int angle = 1; angle <= 35; angle++) {
            x.tick(1);
            Check.due("the angle", x.crane(0, Sites.ANGLE), angle);
        }
        x.slew(0, 0, 1);
        x.tick(1);
        Check.due("the angle behind 35", x.crane(0, Sites.ANGLE), 0);
        Check.due("the steps of a full turn", x.crane(0, Sites.STEPS), 36);
    }

    private static void paceIsTicksForAStep() {
        Doc.says(ZONES, "A crane has a pace, 1 to 5 ticks for a step, and a priority, 0 to 9.");
        for (int pace = 1; pace <= 5; pace++) {
            CraneGuard x = new CraneGuard();
            x.addCrane(7, pace, 0);
            x.slew(0, 20, 1);
            for (int ticks = 1; ticks <= 2 * pace; ticks++) {
                x.tick(1);
                Check.due("with the pace " + pace, x.crane(0, Sites.ANGLE), 7 + ticks / pace);
            }
        }
    }

    private static void priorityIsZeroTo9() {
        Doc.says(ZONES, "A crane has a pace, 1 to 5 ticks for a step, and a priority, 0 to 9.");
        // Both want the same zone; crane 1 has it just if its priority is the higher one.
        for (int first = 0; first <= 9; first++) {
            for (int second = 0; second <= 9; second++) {
                CraneGuard x = new CraneGuard();
                x.addCrane(3, 1, first);
                x.addCrane(3, 1, second);
                x.setArc(0, 0, 4, 4);
                x.setArc(1, 0, 4, 4);
                x.slew(0, 9, 1);
                x.slew(1, 9, 1);
                x.tick(1);
                Check.due(first + " against " + second, x.occupants(0), second > first ? 2 : 1);
            }
        }
    }

    private static void targetAndWay() {
        Doc.says(ZONES, "It can have a target, an angle, and a way, 1 (clockwise) or -1.");
        CraneGuard x = Sites.withCranes(17);
        Check.due("no target at first", x.crane(0, Sites.TARGET), Sites.NONE);
        for (int target : new int[] {0, 35}) {
            for (int way : new int[] {1, -1}) {
                x.slew(0, target, way);
                Check.due("the target", x.crane(0, Sites.TARGET), target);
                Check.due("the way", x.crane(0, Sites.WAY), way);
                x.tick(1);
                Check.due("it turns that way", x.crane(0, Sites.ANGLE), 17 + way);
                x.undo();
            }
        }
    }

    private static void sixZones() {
        Doc.says(ZONES, "There are 6 zones, numbered from 0.");
        CraneGuard x = Sites.withCranes(5);
        for (int zone = 0; zone < 6; zone++) {
            Check.due("setArc()", x.setArc(0, zone, 5, 5), 1);
            Check.due("occupants()", x.occupants(zone), 1);
            Check.due("the zones occupied", x.crane(0, Sites.OCCUPIED), (2 << zone) - 1);
        }
        for (int zone : new int[] {-1, 6}) {
            Check.due("setArc()", x.setArc(0, zone, 5, 5), Sites.BAD_INDEX);
            Check.due("occupants()", x.occupants(zone), Sites.BAD_INDEX);
        }
    }

    private static void noArcsAtFirst() {
        Doc.says(ZONES, "For each zone, each crane has an arc, or none (none at first).");
        CraneGuard x = Sites.withCranes(0, 0, 0, 0);
        for (int crane = 0; crane < 4; crane++) {
            for (int zone = 0; zone < 6; zone++) {
                Check.due("the first angle", x.arc(crane, zone, false), Sites.NONE);
                Check.due("the last angle", x.arc(crane, zone, true), Sites.NONE);
            }
        }
        x.slew(0, 35, 1);
        for (int angle = 0; angle < 36; angle++) {
            Check.due("the zones occupied", x.crane(0, Sites.OCCUPIED), 0);
            x.tick(1);
        }
        x.leave(1, true);
        Check.due("the zones of a crane left", x.crane(1, Sites.OCCUPIED), 0);
    }

    private static void arcWithBothEnds() {
        Doc.says(ZONES, "An arc has a first and a last angle, 0 to 35; it contains all angles that one comes to going "
                + "clockwise from the first one to the last one, both included");
        for (int first = 0; first < 36; first++) {
            for (int angle = 0; angle < 36; angle++) {
                CraneGuard x = Sites.withCranes(angle);
                for (int last = 0; last < 36; last++) {
                    x.setArc(0, 3, first, last);
                    int due = isOnTheWay(first, last, angle) ? 8 : 0;
                    Check.due(angle + " in " + first + " to " + last, x.crane(0, Sites.OCCUPIED), due);
                }
            }
        }
    }

    private static boolean isOnTheWay(int first, int last, int angle) {
        for (int at = first; at != last; at = at == 35 ? 0 : at + 1) {
            if (at == angle) {
                return true;
            }
        }
        return angle == last;
    }

    private static void arcOfOneAngle() {
        Doc.says(ZONES, "(so if both are the same, that angle alone)");
        for (int only : new int[] {0, 1, 17, 34, 35}) {
            for (int angle = 0; angle < 36; angle++) {
                CraneGuard x = Sites.withCranes(angle);
                x.setArc(0, 0, only, only);
                Check.due(angle + " in " + only + " alone", x.occupants(0), angle == only ? 1 : 0);
            }
        }
    }

    /**
     * All that there can be: four cranes with arcs in all zones, ten notes and a full history, at the time 9. All
     * arcs are far from the jibs, so that nobody waits; crane 1 has done ten steps.
     */
    private static CraneGuard full() {
        CraneGuard x = new CraneGuard();
        x.addCrane(10, 2, 0);
        x.addCrane(12, 1, 9);
        x.addCrane(14, 5, 4);
        x.addCrane(16, 3, 4);
        for (int crane = 0; crane < 4; crane++) {
            for (int zone = 0; zone < 6; zone++) {
                x.setArc(crane, zone, 34, 1);
            }
        }
        x.tick(9);
        x.slew(1, 32, 1);
        for (int note = 0; note < 10; note++) {
            x.override(1, 9);
        }
        x.slew(0, 9, -1);
        x.slew(2, 3, -1);
        x.slew(3, 19, 1);
        return x;
    }

    private static void fullSite() {
        Doc.says(ZONES, "There are at most 4 cranes, numbered from 0.");
        CraneGuard x = full();
        for (int zone = 0; zone < 6; zone++) {
            x.setArc(3, zone, 17, 17);
        }
        Check.due("notes()", x.notes(), 10);
        for (int crane = 0; crane < 4; crane++) {
            Check.due("blocker(" + crane + ")", x.blocker(crane), Sites.NONE);
            Check.due("waits(" + crane + ", 1000)", x.waits(crane, 1000), 0);
        }
        Check.due("allDone()", x.allDone(), 55);
        x.tick(8);
        int[][] due = {{9, 2, 0, Sites.NONE, 0, 0, 0, 0, 0, 1}, {30, 1, 9, 32, 1, 0, 0, 0, 0, 18},
            {13, 5, 4, 3, -1, 3, 0, 0, 0, 1}, {18, 3, 4, 19, 1, 2, 0, 0, 0, 2}};
        for (int crane = 0; crane < 4; crane++) {
            for (int what = 0; what < 10; what++) {
                Check.due("crane(" + crane + ", " + what + ")", x.crane(crane, what), due[crane][what]);
            }
        }
    }

    private static void fullSiteLeft() {
        Doc.says(ZONES, "There are 6 zones, numbered from 0.");
        for (int crane = 0; crane < 4; crane++) {
            CraneGuard x = full();
            Check.due("leave(" + crane + ", true)", x.leave(crane, true), 0);
            Check.due("the zones that it occupies", x.crane(crane, Sites.OCCUPIED), 63);
            for (int zone = 0; zone < 6; zone++) {
                Check.due("occupants()", x.occupants(zone), 1 << crane);
            }
            Check.due("conflicts()", x.conflicts(), 0);
            for (int other = 0; other < 4; other++) {
                Check.due("leave() of another one", x.leave(other, true), other == crane ? 1 : Sites.BAD_STATE);
                Check.due("blocker() of a crane far from its arcs", x.blocker(other), Sites.NONE);
            }
        }
    }

    private static void newSite() {
        Doc.says(1, "Creates a site without cranes and arcs, at the time 0, with the wind at the angle 0, and with an "
                + "empty text.");
        CraneGuard x = new CraneGuard();
        Check.due("cranes()", x.cranes(), 0);
        Check.due("arc()", x.arc(0, 0, true), Sites.BAD_INDEX);
        Check.due("time()", x.time(), 0);
        Check.due("textFault() of an empty text", x.textFault(), 0);
        Check.due("clearText()", x.clearText(), 0);
        Check.due("notes()", x.notes(), 0);
        Check.due("undo()", x.undo(), Sites.BAD_STATE);
        for (int zone = 0; zone < 6; zone++) {
            Check.due("occupants()", x.occupants(zone), 0);
        }
        Check.due("conflicts()", x.conflicts(), 0);
        Check.due("setWind()", x.setWind(1), 0);
    }

    private static void newSitesAreApart() {
        Doc.says(1, "Creates a site without cranes and arcs");
        CraneGuard used = Boundary.busyWithTenNotes();
        CraneGuard x = new CraneGuard();
        Check.due("digest() beside another site", x.digest(), 17L * 31 * 31 * 31 * 31);
        Check.due("undo() beside another site", x.undo(), Sites.BAD_STATE);
        Check.due("clearText() beside another site", x.clearText(), 0);
        Check.due("the other site's text", used.clearText(), 3);
        Check.due("the other site's notes", used.notes(), 10);
    }

    private static void addCraneAnew() {
        Doc.says(2, "Adds a crane without arcs and without a target.");
        CraneGuard x = Sites.withCranes(20);
        long before = x.digest();
        x.addCrane(5, 3, 9);
        x.setArc(1, 5, 0, 9);
        x.slew(1, 9, 1);
        x.tick(4);
        for (int k = 0; k < 4; k++) {
            x.undo();
        }
        Check.due("digest() behind undo()", x.digest(), before);
        // Nothing of the crane that was taken back may be seen at the new one.
        Check.due("addCrane()", x.addCrane(4, 2, 1), 1);
        int[] due = {4, 2, 1, Sites.NONE, 0, 0, 0, 0, 0, 0};
        for (int what = 0; what < due.length; what++) {
            Check.due("crane(1, " + what + ")", x.crane(1, what), due[what]);
        }
        for (int zone = 0; zone < 6; zone++) {
            Check.due("arc(1, " + zone + ", ..)", x.arc(1, zone, true), Sites.NONE);
        }
    }

    private static void addCraneRanges() {
        Doc.says(2, "BAD_VALUE if an argument is out of range;");
        Doc.says(2, "- `angle`: 0 to 35");
        Boundary.range("angle", Boundary::plain, (x, v) -> x.addCrane(v, 1, 0), 0, 35, Sites.BAD_VALUE);
        Doc.says(2, "- `pace`: 1 to 5");
        Boundary.range("pace", Boundary::plain, (x, v) -> x.addCrane(0, v, 0), 1, 5, Sites.BAD_VALUE);
        Doc.says(2, "- `priority`: 0 to 9");
        Boundary.range("priority", Boundary::plain, (x, v) -> x.addCrane(0, 1, v), 0, 9, Sites.BAD_VALUE);
    }

    private static void addCraneWhenFull() {
        Doc.says(2, "Returns its number;");
        Check.due("addCrane() of the first one", new CraneGuard().addCrane(0, 1, 0), 0);
        Check.due("addCrane() of the last one", Sites.withCranes(0, 0, 0).addCrane(0, 1, 0), 3);
        Doc.says(2, "FULL if there are 4 cranes.");
        Boundary.refused("addCrane()", Boundary::busy, x -> x.addCrane(0, 1, 0), Sites.FULL);
        CraneGuard x = Sites.withCranes(0, 0, 0, 0);
        x.undo();
        Check.due("addCrane() behind undo()", x.addCrane(0, 1, 0), 3);
    }

    private static void setPriority() {
        Doc.says(3, "- `priority`: 0 to 9");
        Doc.says(3, "BAD_VALUE if priority is out of range.");
        Boundary.range("priority", Boundary::busy, (x, v) -> x.setPriority(3, v), 0, 9, Sites.BAD_VALUE);
        Doc.says(3, "Returns the previous priority;");
        CraneGuard x = Sites.withCranes(0);
        int[] priorities = {9, 0, 0, 9, 9, 1};
        for (int k = 0; k < priorities.length; k++) {
            int due = k == 0 ? 0 : priorities[k - 1];
            Check.due("setPriority()", x.setPriority(0, priorities[k]), due);
        }
        Check.due("setPriority() on a step", Boundary.busy().setPriority(1, 9), 5);
        Check.due("setPriority() of a crane left", Boundary.busy().setPriority(2, 9), 0);
    }

    private static void setArcRanges() {
        Doc.says(4, "BAD_VALUE if first or last is out of range;");
        Doc.says(4, "- `first`: 0 to 35");
        Boundary.range("first", Boundary::busy, (x, v) -> x.setArc(0, 5, v, 3), 0, 35, Sites.BAD_VALUE);
        Doc.says(4, "- `last`: 0 to 35");
        Boundary.range("last", Boundary::busy, (x, v) -> x.setArc(0, 5, 3, v), 0, 35, Sites.BAD_VALUE);
    }

    private static void setArcCounts() {
        Doc.says(4, "Sets an arc.");
        Doc.says(4, "Returns how many angles the arc contains;");
        for (int first = 0; first < 36; first++) {
            CraneGuard x = Sites.withCranes(0);
            int due = 0;
            for (int last = first; due < 36; last = last == 35 ? 0 : last + 1) {
                due++;
                Check.due("setArc(0, 0, " + first + ", " + last + ")", x.setArc(0, 0, first, last), due);
                Check.due("its first angle", x.arc(0, 0, false), first);
                Check.due("its last angle", x.arc(0, 0, true), last);
            }
        }
    }

    private static void setArcOfACraneLeft() {
        Doc.says(4, "BAD_STATE if the crane is left to the wind,");
        // Also if the zone can be no conflict, and if the arc is the one that it has already.
        Boundary.refused("setArc()", Boundary::busy, x -> x.setArc(2, 5, 3, 3), Sites.BAD_STATE);
        Boundary.refused("setArc(), the same", Boundary::busy, x -> x.setArc(2, 0, 20, 20), Sites.BAD_STATE);
        CraneGuard x = Boundary.busy();
        x.leave(2, false);
        Check.due("setArc() when it is taken back", x.setArc(2, 5, 3, 3), 1);
    }

    private static void setArcIntoAConflict() {
        Doc.says(4, "or if the zone would be a conflict then, by whichever cranes, and is none now.");
        // Crane 1 is on a step from 10 to 11, and occupies zone 1; crane 0 is at 0; crane 2, left, locks zone 0.
        Boundary.refused("another one at its angle", Boundary::busy, x -> x.setArc(0, 1, 35, 0), Sites.BAD_STATE);
        Boundary.refused("a zone locked by a crane left", Boundary::busy, x -> x.setArc(0, 0, 0, 0), Sites.BAD_STATE);
        Boundary.taken("an arc beside its angle", Boundary::busy, x -> x.setArc(0, 1, 1, 35));
        Boundary.taken("a zone without others", Boundary::busy, x -> x.setArc(0, 2, 0, 0));
        Boundary.refused("at its own next angle", Boundary::busy, x -> x.setArc(1, 0, 11, 11), Sites.BAD_STATE);
        Boundary.refused("at its own angle on a step", Boundary::busy, x -> x.setArc(1, 0, 10, 10), Sites.BAD_STATE);
        Boundary.taken("behind its next angle", Boundary::busy, x -> x.setArc(1, 0, 12, 9));
        Boundary.Maker nextOfOther = () -> {
            CraneGuard x = Boundary.busy();
            x.setArc(1, 1, 11, 11);
            return x;
        };
        Boundary.refused("the next angle of another one", nextOfOther, x -> x.setArc(0, 1, 0, 0), Sites.BAD_STATE);
    }

    /** Zone 2 is a conflict of the cranes 0 and 1, made by an override; crane 2 has an arc in zone 3 alone. */
    private static CraneGuard inConflict() {
        CraneGuard x = Sites.withCranes(10, 20, 30);
        x.setArc(0, 2, 10, 10);
        x.setArc(1, 2, 21, 22);
        x.setArc(2, 3, 30, 30);
        x.slew(1, 25, 1);
        x.override(1, 1);
        return x;
    }

    private static void setArcInAConflict() {
        Doc.says(4, "and is none now.");
        CraneGuard x = inConflict();
        Check.due("conflicts()", x.conflicts(), 4);
        Check.due("setArc() into a zone that is a conflict", x.setArc(2, 2, 30, 30), 1);
        Check.due("occupants()", x.occupants(2), 7);
        Check.due("setArc() while it stays one", x.setArc(0, 2, 9, 10), 2);
        Check.due("setArc() out of it, while it stays one", x.setArc(0, 2, 9, 9), 1);
        Check.due("setArc() that ends it", x.setArc(1, 2, 23, 23), 1);
        Check.due("conflicts()", x.conflicts(), 0);
        Check.due("setArc() that would make it anew", x.setArc(1, 2, 21, 21), Sites.BAD_STATE);
        Check.due("conflicts()", x.conflicts(), 0);
    }

    private static void setArcByWhicheverCranes() {
        Doc.says(4, "by whichever cranes,");
        // That there is a conflict in zone 2 is no leave to make one in zone 3.
        Boundary.refused("another zone", BoundaryCranesTest::inConflict, x -> x.setArc(0, 3, 10, 10), Sites.BAD_STATE);
        for (int first = 0; first < 4; first++) {
            for (int second = 0; second < 4; second++) {
                CraneGuard x = Sites.withCranes(1, 1, 1, 1);
                x.setArc(first, 5, 1, 1);
                int due = first == second ? 2 : Sites.BAD_STATE;
                Check.due("crane " + second + " behind " + first, x.setArc(second, 5, 0, 1), due);
            }
        }
    }

    private static void removeArc() {
        Doc.says(5, "Removes an arc.");
        Doc.says(5, "Returns 1 if there was one, else 0;");
        CraneGuard x = Sites.withCranes(0);
        Check.due("removeArc() of none", x.removeArc(0, 0), 0);
        int[][] arcs = {{0, 0}, {0, 35}, {35, 0}, {35, 35}};
        for (int[] arc : arcs) {
            x.setArc(0, 0, arc[0], arc[1]);
            Check.due("removeArc()", x.removeArc(0, 0), 1);
            Check.due("arc()", x.arc(0, 0, false), Sites.NONE);
            Check.due("arc()", x.arc(0, 0, true), Sites.NONE);
            Check.due("occupants()", x.occupants(0), 0);
            Check.due("removeArc() again", x.removeArc(0, 0), 0);
        }
        CraneGuard busy = Boundary.busy();
        Check.due("removeArc() of a crane left", busy.removeArc(2, 0), 1);
        Check.due("it locks nothing more", busy.blocker(3), Sites.NONE);
        Check.due("removeArc() of a crane on a step", busy.removeArc(1, 1), 1);
        Check.due("removeArc() of the first one's only", busy.removeArc(0, 1), 1);
    }

    private static void cranes() {
        Doc.says(6, "Returns the number of cranes.");
        Doc.says(6, "Returns the number.");
        CraneGuard x = new CraneGuard();
        Check.due("cranes() of none", x.cranes(), 0);
        for (int many = 1; many <= 4; many++) {
            x.addCrane(0, 1, 0);
            Check.due("cranes()", x.cranes(), many);
        }
        x.addCrane(0, 1, 0);
        Check.due("cranes() behind a refused one", x.cranes(), 4);
    }

    private static void craneRanges() {
        Doc.says(7, "Returns a property of a crane.");
        Doc.says(7, "- `what`: 0 its angle, 1 its pace, 2 its priority,");
        Doc.says(7, "BAD_VALUE if what is out of range.");
        int[] outside = {-1, 10, -10, 11, 256, -256, 1 << 29, 1 << 30, Integer.MIN_VALUE, Integer.MAX_VALUE};
        for (int bad : outside) {
            Boundary.refused("crane(0, " + bad + ")", Boundary::busy, x -> x.crane(0, bad), Sites.BAD_VALUE);
        }
        Doc.says(7, "Returns the property;");
        int[][] due = {{0, 2, 3, Sites.NONE, 0, 0, 0, 0, 0, 2}, {10, 3, 5, 15, 1, 1, 0, 0, 2, 0},
            {21, 1, 0, Sites.NONE, 0, 0, 0, 1, 1, 0}, {30, 1, 9, 33, 1, 0, 1, 0, 0, 0}};
        for (int crane = 0; crane < 4; crane++) {
            for (int what = 0; what < 10; what++) {
                Check.due("crane(" + crane + ", " + what + ")", Boundary.busy().crane(crane, what), due[crane][what]);
            }
        }
    }

    private static void craneWithoutATarget() {
        Doc.says(7, "3 its target (NONE if it has none), 4 its way (0 without a target), 5 its progress, 6 its wait, "
                + "7: 1 if it is left to the wind, else 0;");
        Boundary.Call[] endings = {x -> x.stop(0), x -> x.slew(0, 10, 0), x -> x.leave(0, true), x -> x.tick(7),
            x -> x.undo()};
        for (Boundary.Call ending : endings) {
            for (int way : new int[] {1, -1}) {
                CraneGuard x = Sites.withCranes(10);
                x.slew(0, 10 + 7 * way, way);
                Check.due("crane(0, 4) with a target", x.crane(0, Sites.WAY), way);
                ending.on(x);
                Check.due("crane(0, 3) without a target", x.crane(0, Sites.TARGET), Sites.NONE);
                Check.due("crane(0, 4) without a target", x.crane(0, Sites.WAY), 0);
            }
        }
        CraneGuard zero = Sites.withCranes(10);
        zero.slew(0, 0, 1);
        Check.due("crane(0, 3) with the target 0", zero.crane(0, Sites.TARGET), 0);
    }

    private static void craneZones() {
        Doc.says(7, "8 the set of the zones that it occupies (the sum of 2^z for each zone z),");
        for (int zones = 0; zones < 64; zones++) {
            CraneGuard x = Sites.withCranes(10);
            for (int zone = 0; zone < 6; zone++) {
                int angle = (zones >> zone & 1) == 1 ? 10 : 11;
                x.setArc(0, zone, angle, angle);
            }
            Check.due("crane(0, 8)", x.crane(0, Sites.OCCUPIED), zones);
        }
    }

    private static void craneSteps() {
        Doc.says(7, "9 how many steps it has done (by overrides, too, but not those to the wind)");
        CraneGuard x = new CraneGuard();
        x.addCrane(10, 2, 0);
        x.slew(0, 15, 1);
        x.tick(1);
        Check.due("crane(0, 9) on the first step", x.crane(0, Sites.STEPS), 0);
        x.tick(1);
        Check.due("crane(0, 9) behind it", x.crane(0, Sites.STEPS), 1);
        x.override(0, 1);
        Check.due("crane(0, 9) behind an override", x.crane(0, Sites.STEPS), 2);
        x.leave(0, true);
        x.tick(20);
        Check.due("it went to the wind", x.crane(0, Sites.ANGLE), 0);
        Check.due("crane(0, 9) behind that", x.crane(0, Sites.STEPS), 2);
        x.leave(0, false);
        x.slew(0, 35, -1);
        x.tick(2);
        Check.due("crane(0, 9) goes on", x.crane(0, Sites.STEPS), 3);
        CraneGuard y = Sites.withCranes(10, 10, 10, 10);
        for (int crane = 0; crane < 4; crane++) {
            y.slew(crane, 11 + crane, 1);
        }
        y.tick(9);
        for (int crane = 0; crane < 4; crane++) {
            Check.due("crane(" + crane + ", 9)", y.crane(crane, Sites.STEPS), 1 + crane);
        }
    }

    private static void arcLimits() {
        Doc.says(8, "Returns a limit of an arc.");
        Doc.says(8, "- `last`: true for its last angle, false for its first one");
        Doc.says(8, "Returns the angle;");
        CraneGuard x = Sites.withCranes(10, 10, 10, 10);
        for (int crane = 0; crane < 4; crane++) {
            for (int zone = 0; zone < 6; zone++) {
                x.setArc(crane, zone, 20 + zone, crane);
            }
        }
        for (int crane = 0; crane < 4; crane++) {
            for (int zone = 0; zone < 6; zone++) {
                Check.due("the first angle", x.arc(crane, zone, false), 20 + zone);
                Check.due("the last angle", x.arc(crane, zone, true), crane);
            }
        }
        Doc.says(8, "NONE if there is no arc;");
        CraneGuard y = Sites.withCranes(10);
        y.setArc(0, 0, 0, 0);
        Check.due("an arc at 0 is one", y.arc(0, 0, false), 0);
        Check.due("an arc at 0 is one", y.arc(0, 0, true), 0);
        Boundary.changesNothing("arc()", Boundary::busy, z -> z.arc(0, 0, true), Sites.NONE);
        Boundary.changesNothing("arc()", Boundary::busy, z -> z.arc(3, 5, false), Sites.NONE);
    }

    private static void occupants() {
        Doc.says(9, "Tells who occupies a zone.");
        Doc.says(9, "Returns the set of cranes (the sum of 2^c for each crane c);");
        for (int set = 0; set < 16; set++) {
            for (int zone = 0; zone < 6; zone += 5) {
                Check.due("occupants(" + zone + ")", occupiedBy(set, zone).occupants(zone), set);
                Check.due("occupants() of another zone", occupiedBy(set, zone).occupants(5 - zone), 0);
            }
        }
    }

    /** The cranes of the set are in the zone, by overrides; the others are one step before it. */
    static CraneGuard occupiedBy(int set, int zone) {
        CraneGuard x = Sites.withCranes(10, 10, 10, 10);
        for (int crane = 0; crane < 4; crane++) {
            x.setArc(crane, zone, 11, 11);
            if ((set >> crane & 1) == 1) {
                x.slew(crane, 20, 1);
                x.override(crane, 1);
            }
        }
        return x;
    }

    private static void conflicts() {
        Doc.says("Turning", "A conflict is a zone that more than one crane occupies.");
        Doc.says(10, "Returns the conflicts.");
        Doc.says(10, "Returns the set of zones.");
        Check.due("conflicts() without cranes", new CraneGuard().conflicts(), 0);
        for (int set = 0; set < 16; set++) {
            for (int zone = 0; zone < 6; zone++) {
                int due = Integer.bitCount(set) > 1 ? 1 << zone : 0;
                Check.due("conflicts() by " + set, occupiedBy(set, zone).conflicts(), due);
            }
        }
        for (int zones = 0; zones < 64; zones++) {
            CraneGuard x = Sites.withCranes(10, 20);
            x.slew(0, 12, 1);
            for (int zone = 0; zone < 6; zone++) {
                x.setArc(0, zone, 11, 11);
                int angle = (zones >> zone & 1) == 1 ? 20 : 21;
                x.setArc(1, zone, angle, angle);
            }
            Check.due("conflicts() before", x.conflicts(), 0);
            x.override(0, 1);
            Check.due("conflicts()", x.conflicts(), zones);
        }
    }
}
