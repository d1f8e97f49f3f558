import java.util.Random;

/** Long runs of calls, on the program and on the model: each answer and each state must be the same. */
final class ModelTest {
    private static final int RUNS = 8000;
    /** A turn of a run is some calls, at most 100: an object is used for 512 calls. */
    private static final int LAST_TURN_AT = 410;
    /** How often these were seen: runs that never come to them would try little. */
    private static int cycles = 0;
    private static int conflicts = 0;
    private static int foretoldWaits = 0;
    private static int commands = 0;

    private final Random random;
    private final CraneGuard real = new CraneGuard();
    private final ModelGuard model = new ModelGuard();
    private final String name;
    /** Some runs use few zones, so that cranes meet in them. */
    private final int lastZone;
    private int wrong = 0;
    private int calls = 0;

    private ModelTest(int run) {
        // A seed of its own for each run: the same runs each time.
        random = new Random(1000 + run);
        lastZone = random.nextInt(6);
        name = "run " + run;
    }

    static void run() {
        int wrongRuns = 0;
        for (int run = 0; run < RUNS && wrongRuns < 3; run++) {
            ModelTest test = new ModelTest(run);
            for (int turn = 0; test.calls < LAST_TURN_AT && test.wrong == 0; turn++) {
                test.takeTurn(turn);
            }
            Check.holds(test.name + " is as the model's", test.wrong == 0);
            wrongRuns += test.wrong > 0 ? 1 : 0;
        }
        Check.holds("the runs come to cycles: " + cycles, cycles > 100);
        Check.holds("the runs come to conflicts: " + conflicts, conflicts > 1000);
        Check.holds("the runs foretell waits: " + foretoldWaits, foretoldWaits > 1000);
        Check.holds("the runs carry commands out: " + commands, commands > 500);
    }

    private void same(String call, long got, long want) {
        calls++;
        if (got != want) {
            wrong++;
            System.out.println(name + ": " + call + " answered " + got + ", the model " + want);
        }
    }

    /** Mostly within the range, sometimes beside it, seldom far from it. */
    private int pick(int from, int to) {
        int kind = random.nextInt(60);
        if (kind == 0) {
            return from - 1;
        }
        if (kind == 1) {
            return to + 1;
        }
        if (kind == 2) {
            return random.nextInt();
        }
        return from + random.nextInt(to - from + 1);
    }

    private int crane() {
        return random.nextInt(50) == 0 ? pick(0, 3) : random.nextInt(Math.max(1, model.cranes()));
    }

    private void takeTurn(int turn) {
        if (turn < 3) {
            addCrane();
        } else if (turn < 12) {
            // Some arcs and targets first, so that cranes meet.
            arrange(4);
            aim(20);
        }
        int kind = random.nextInt(100);
        if (kind < 20) {
            arrange(kind);
        } else if (kind < 45) {
            aim(kind);
        } else if (kind < 60) {
            int many = random.nextInt(4) == 0 ? pick(1, 200) : 1 + random.nextInt(8);
            same("tick(" + many + ")", real.tick(many), model.tick(many));
        } else if (kind < 70) {
            wind(kind);
        } else if (kind < 76) {
            same("undo()", real.undo(), model.undo());
        } else if (kind < 79) {
            text();
        } else {
            ask();
        }
        same("digest()", real.digest(), model.digest());
        if (random.nextInt(3) == 0) {
            look();
        }
    }

    private void addCrane() {
        int angle = pick(0, 35);
        int pace = pick(1, 5);
        int priority = pick(0, 9);
        same("addCrane", real.addCrane(angle, pace, priority), model.addCrane(angle, pace, priority));
    }

    private void arrange(int kind) {
        int crane = crane();
        int zone = random.nextInt(20) == 0 ? pick(0, 5) : random.nextInt(lastZone + 1);
        if (kind < 2) {
            addCrane();
        } else if (kind < 4) {
            int priority = pick(0, 9);
            same("setPriority", real.setPriority(crane, priority), model.setPriority(crane, priority));
        } else if (kind < 18) {
            int first = pick(0, 35);
            int last = random.nextInt(3) == 0 ? pick(0, 35) : Math.floorMod(first + random.nextInt(9), 36);
            same("setArc(" + crane + ", " + zone + ", " + first + ", " + last + ")",
                    real.setArc(crane, zone, first, last), model.setArc(crane, zone, first, last));
        } else {
            same("removeArc", real.removeArc(crane, zone), model.removeArc(crane, zone));
        }
    }

    private void aim(int kind) {
        int crane = crane();
        if (kind < 39) {
            int target = pick(0, 35);
            int way = pick(-1, 1);
            same("slew(" + crane + ", " + target + ", " + way + ")",
                    real.slew(crane, target, way), model.slew(crane, target, way));
        } else if (kind < 41) {
            same("stop(" + crane + ")", real.stop(crane), model.stop(crane));
        } else {
            same("turnRound(" + crane + ")", real.turnRound(crane), model.turnRound(crane));
        }
    }

    private void wind(int kind) {
        int crane = crane();
        if (kind < 62) {
            int angle = pick(0, 35);
            same("setWind(" + angle + ")", real.setWind(angle), model.setWind(angle));
        } else if (kind < 65) {
            boolean left = random.nextInt(3) == 0;
            same("leave(" + crane + ", " + left + ")", real.leave(crane, left), model.leave(crane, left));
        } else if (kind < 69) {
            int reason = pick(1, 9);
            same("override(" + crane + ")", real.override(crane, reason), model.override(crane, reason));
        } else if (random.nextInt(5) == 0) {
            same("clearNotes()", real.clearNotes(), model.clearNotes());
        }
    }

    private void text() {
        if (random.nextInt(3) > 0) {
            same("clearText()", real.clearText(), model.clearText());
        }
        int pieces = random.nextInt(8) == 0 ? 1 + random.nextInt(20) : 1 + random.nextInt(3);
        for (int k = 0; k < pieces; k++) {
            String piece = blanks() + crane() + blanks() + "><~".charAt(random.nextInt(3)) + blanks() + number()
                    + blanks() + (k < pieces - 1 ? ";" : "");
            for (int at = 0; at < piece.length(); at++) {
                int code = random.nextInt(120) == 0 ? pick(0, 255) : piece.charAt(at);
                same("type(" + code + ")", real.type(code), model.type(code));
            }
        }
        same("textFault()", real.textFault(), model.textFault());
        int got = real.command();
        same("command()", got, model.command());
        commands += got >= 0 ? 1 : 0;
    }

    private String blanks() {
        return random.nextInt(6) == 0 ? " ".repeat(random.nextInt(3)) : "";
    }

    private String number() {
        int number = random.nextInt(30) == 0 ? random.nextInt(400) : random.nextInt(36);
        return number < 10 && random.nextInt(5) == 0 ? "0" + number : "" + number;
    }

    private void ask() {
        int crane = pick(0, 3);
        int zone = pick(0, 5);
        int what = pick(0, 9);
        int note = pick(0, 9);
        int part = pick(0, 3);
        int many = pick(1, 1000);
        same("crane(" + crane + ", " + what + ")", real.crane(crane, what), model.crane(crane, what));
        same("arc first", real.arc(crane, zone, false), model.arc(crane, zone, false));
        same("arc last", real.arc(crane, zone, true), model.arc(crane, zone, true));
        same("occupants(" + zone + ")", real.occupants(zone), model.occupants(zone));
        same("note(" + note + ", " + part + ")", real.note(note, part), model.note(note, part));
        same("needs(" + crane + ")", real.needs(crane), model.needs(crane));
        same("allDone()", real.allDone(), model.allDone());
        same("done(" + crane + ")", real.done(crane), model.done(crane));
        int waits = real.waits(crane, many);
        same("waits(" + crane + ", " + many + ")", waits, model.waits(crane, many));
        foretoldWaits += waits > 0 && waits < many ? 1 : 0;
    }

    private void look() {
        same("cranes()", real.cranes(), model.cranes());
        same("time()", real.time(), model.time());
        same("notes()", real.notes(), model.notes());
        int conflictSet = real.conflicts();
        same("conflicts()", conflictSet, model.conflicts());
        int cycleSet = real.cycle();
        same("cycle()", cycleSet, model.cycle());
        for (int crane = 0; crane < model.cranes(); crane++) {
            same("blocker(" + crane + ")", real.blocker(crane), model.blocker(crane));
        }
        conflicts += conflictSet != 0 ? 1 : 0;
        cycles += cycleSet != 0 ? 1 : 0;
    }
}
