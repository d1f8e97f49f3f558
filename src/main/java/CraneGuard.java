/**
 * A guard against collisions of tower cranes: jibs turn step by step, zones are shared arcs in which
 * only one jib may be, cranes wait by priorities, cycles of waiting are found, jibs that are left to
 * the wind lock their zones, and overrides are noted.
 */
public final class CraneGuard {
    public static final int NONE = -100, BAD_INDEX = -101, BAD_VALUE = -102, BAD_STATE = -103, FULL = -104;

    private static final int CRANES = 4;
    private static final int ZONES = 6;
    private static final int ANGLES = 36;
    private static final int MOST_PACE = 5;
    private static final int MOST_PRIORITY = 9;
    private static final int MOST_REASON = 9;
    private static final int MOST_TICKS = 200;
    private static final int MOST_TIME = 100000;
    private static final int MOST_FORETOLD = 1000;
    private static final int MOST_BYTE = 255;

    private static final int PROPERTIES = 10;
    private static final int NOTES = 10;
    private static final int PARTS = 4;

    private final Site site = new Site();
    /** A copy of the site, on which is tried out what must not change the site itself. */
    private final Site trial = new Site();
    private final History history = new History();
    private final Text text = new Text();

    public CraneGuard() {
    }

    // ---- cranes and zones

    public int addCrane(int angle, int pace, int priority) {
        if (!isAngle(angle) || pace < 1 || pace > MOST_PACE || !isPriority(priority)) {
            return BAD_VALUE;
        }
        if (site.craneCount() >= CRANES) {
            return FULL;
        }
        history.keep(site);
        return site.putCrane(angle, pace, priority);
    }

    public int setPriority(int crane, int priority) {
        if (!site.hasCrane(crane)) {
            return BAD_INDEX;
        }
        if (!isPriority(priority)) {
            return BAD_VALUE;
        }
        history.keep(site);
        return site.changePriority(crane, priority);
    }

    public int setArc(int crane, int zone, int first, int last) {
        if (!site.hasCrane(crane) || !isZone(zone)) {
            return BAD_INDEX;
        }
        if (!isAngle(first) || !isAngle(last)) {
            return BAD_VALUE;
        }
        if (site.isLeft(crane) || wouldMakeConflict(crane, zone, first, last)) {
            return BAD_STATE;
        }
        history.keep(site);
        site.setLimits(crane, zone, first, last);
        return stepsClockwise(first, last) + 1;
    }

    public int removeArc(int crane, int zone) {
        if (!site.hasCrane(crane) || !isZone(zone)) {
            return BAD_INDEX;
        }
        history.keep(site);
        boolean wasThere = site.hasArc(crane, zone);
        site.setLimits(crane, zone, NONE, NONE);
        return wasThere ? 1 : 0;
    }

    public int cranes() {
        return site.craneCount();
    }

    public int crane(int crane, int what) {
        if (!site.hasCrane(crane)) {
            return BAD_INDEX;
        }
        if (what < 0 || what >= PROPERTIES) {
            return BAD_VALUE;
        }
        return site.property(crane, what);
    }

    public int arc(int crane, int zone, boolean last) {
        if (!site.hasCrane(crane) || !isZone(zone)) {
            return BAD_INDEX;
        }
        return last ? site.lastOf(crane, zone) : site.firstOf(crane, zone);
    }

    public int occupants(int zone) {
        if (!isZone(zone)) {
            return BAD_INDEX;
        }
        return site.occupantsOf(zone);
    }

    public int conflicts() {
        return site.conflictSet();
    }

    // ---- turning

    public int slew(int crane, int target, int way) {
        if (!site.hasCrane(crane)) {
            return BAD_INDEX;
        }
        if (!isAngle(target) || way < -1 || way > 1) {
            return BAD_VALUE;
        }
        if (!site.canAim(crane)) {
            return BAD_STATE;
        }
        history.keep(site);
        return site.aim(crane, target, way);
    }

    public int stop(int crane) {
        if (!site.hasCrane(crane)) {
            return BAD_INDEX;
        }
        if (site.isOnStep(crane)) {
            return BAD_STATE;
        }
        history.keep(site);
        return site.dropTarget(crane);
    }

    public int turnRound(int crane) {
        if (!site.hasCrane(crane)) {
            return BAD_INDEX;
        }
        if (!site.hasTarget(crane) || site.isOnStep(crane)) {
            return BAD_STATE;
        }
        history.keep(site);
        return site.changeWay(crane);
    }

    public int tick(int many) {
        if (many < 1 || many > MOST_TICKS) {
            return BAD_VALUE;
        }
        if (site.now() + many > MOST_TIME) {
            return FULL;
        }
        history.keep(site);
        for (int k = 0; k < many; k++) {
            site.passTick();
        }
        return site.now();
    }

    public int time() {
        return site.now();
    }

    public int needs(int crane) {
        if (!site.hasCrane(crane)) {
            return BAD_INDEX;
        }
        return site.hasTarget(crane) ? site.ticksToTarget(crane) : 0;
    }

    public int blocker(int crane) {
        if (!site.hasCrane(crane)) {
            return BAD_INDEX;
        }
        return site.blockerOf(crane);
    }

    public int cycle() {
        return site.cycleSet();
    }

    public int allDone() {
        return ticksUntilDone((1 << CRANES) - 1);
    }

    public int done(int crane) {
        if (!site.hasCrane(crane)) {
            return BAD_INDEX;
        }
        return ticksUntilDone(1 << crane);
    }

    public int waits(int crane, int many) {
        if (!site.hasCrane(crane)) {
            return BAD_INDEX;
        }
        if (many < 1 || many > MOST_FORETOLD) {
            return BAD_VALUE;
        }
        return foretoldWaits(crane, many);
    }

    // ---- wind and overrides

    public int setWind(int angle) {
        if (!isAngle(angle)) {
            return BAD_VALUE;
        }
        history.keep(site);
        return site.changeWind(angle);
    }

    public int leave(int crane, boolean left) {
        if (!site.hasCrane(crane)) {
            return BAD_INDEX;
        }
        boolean before = site.isLeft(crane);
        if (left && !before && !site.canBeLeft(crane)) {
            return BAD_STATE;
        }
        history.keep(site);
        if (left) {
            site.leaveToWind(crane);
        } else {
            site.takeBack(crane);
        }
        return before ? 1 : 0;
    }

    public int override(int crane, int reason) {
        if (!site.hasCrane(crane)) {
            return BAD_INDEX;
        }
        if (reason < 1 || reason > MOST_REASON) {
            return BAD_VALUE;
        }
        if (!site.hasTarget(crane) || site.isOnStep(crane)) {
            return BAD_STATE;
        }
        if (site.noteCount() >= NOTES) {
            return FULL;
        }
        history.keep(site);
        site.endStep(crane);
        int conflictSet = site.conflictSet();
        site.putNote(crane, reason, conflictSet);
        return conflictSet;
    }

    public int notes() {
        return site.noteCount();
    }

    public int note(int note, int what) {
        if (note < 0 || note >= site.noteCount()) {
            return BAD_INDEX;
        }
        if (what < 0 || what >= PARTS) {
            return BAD_VALUE;
        }
        return site.partOfNote(note, what);
    }

    public int clearNotes() {
        history.keep(site);
        return site.dropNotes();
    }

    public int undo() {
        if (history.isEmpty()) {
            return BAD_STATE;
        }
        return history.restore(site);
    }

    // ---- text

    public int type(int code) {
        if (code < 0 || code > MOST_BYTE) {
            return BAD_VALUE;
        }
        if (text.isFull()) {
            return FULL;
        }
        return text.append(code);
    }

    public int clearText() {
        return text.empty();
    }

    public int textFault() {
        return text.read(site);
    }

    public int command() {
        if (text.read(site) != NONE) {
            return BAD_STATE;
        }
        history.keep(site);
        text.carryOut(site);
        return Integer.bitCount(site.cranesWithTarget());
    }

    public long digest() {
        return site.hash();
    }

    // ---- what the methods above share

    private static boolean isAngle(int angle) {
        return angle >= 0 && angle < ANGLES;
    }

    private static boolean isPriority(int priority) {
        return priority >= 0 && priority <= MOST_PRIORITY;
    }

    private static boolean isZone(int zone) {
        return zone >= 0 && zone < ZONES;
    }

    private static int stepsClockwise(int from, int to) {
        return (to - from + ANGLES) % ANGLES;
    }

    private static int shorterWay(int from, int to) {
        return stepsClockwise(from, to) <= ANGLES / 2 ? 1 : -1;
    }

    private boolean wouldMakeConflict(int crane, int zone, int first, int last) {
        trial.copyFrom(site);
        trial.setLimits(crane, zone, first, last);
        return trial.isConflict(zone) && !site.isConflict(zone);
    }

    private int ticksUntilDone(int craneSet) {
        trial.copyFrom(site);
        for (int ticks = 0; ticks <= MOST_FORETOLD; ticks++) {
            if ((trial.cranesWithTarget() & craneSet) == 0) {
                return ticks;
            }
            // After a tick in which no jib moves, none ever will.
            if (!trial.passTick()) {
                return NONE;
            }
        }
        return NONE;
    }

    private int foretoldWaits(int crane, int many) {
        trial.copyFrom(site);
        int start = trial.waitOf(crane);
        for (int k = 0; k < many; k++) {
            int before = trial.waitOf(crane);
            if (!trial.passTick()) {
                // All ticks from this one on are alike.
                return before - start + (many - k) * (trial.waitOf(crane) - before);
            }
        }
        return trial.waitOf(crane) - start;
    }

    /** The whole state but for the text, in one row of numbers, so that it is copied at one go. */
    private static final class Site {
        private static final int TIME = 0, WIND = 1, CRANE_COUNT = 2, NOTE_COUNT = 3;

        /** Blocks with a number for each crane, in the order in which crane() numbers the properties. */
        private static final int ANGLE = 4;
        private static final int PACE = ANGLE + CRANES;
        private static final int PRIORITY = PACE + CRANES;
        private static final int TARGET = PRIORITY + CRANES;
        private static final int WAY = TARGET + CRANES;
        private static final int PROGRESS = WAY + CRANES;
        private static final int WAIT = PROGRESS + CRANES;
        private static final int LEFT = WAIT + CRANES;
        /** This block keeps the order alone: the zones that a crane occupies are found anew each time. */
        private static final int OCCUPIED = LEFT + CRANES;
        private static final int STEPS = OCCUPIED + CRANES;

        /** Blocks with a number for each zone of each crane; NONE where there is no arc. */
        private static final int FIRST = STEPS + CRANES;
        private static final int LAST = FIRST + CRANES * ZONES;

        private static final int NOTE = LAST + CRANES * ZONES;
        private static final int ROW = NOTE + NOTES * PARTS;

        private final int[] row = new int[ROW];

        Site() {
            for (int at = FIRST; at < NOTE; at++) {
                row[at] = NONE;
            }
        }

        void copyFrom(Site other) {
            System.arraycopy(other.row, 0, row, 0, ROW);
        }

        void saveTo(int[] rows, int at) {
            System.arraycopy(row, 0, rows, at, ROW);
        }

        void loadFrom(int[] rows, int at) {
            System.arraycopy(rows, at, row, 0, ROW);
        }

        int now() {
            return row[TIME];
        }

        int changeWind(int angle) {
            int previous = row[WIND];
            row[WIND] = angle;
            return previous;
        }

        // -- cranes

        int craneCount() {
            return row[CRANE_COUNT];
        }

        boolean hasCrane(int crane) {
            return crane >= 0 && crane < row[CRANE_COUNT];
        }

        int putCrane(int angle, int pace, int priority) {
            int crane = row[CRANE_COUNT];
            row[CRANE_COUNT] = crane + 1;
            row[ANGLE + crane] = angle;
            row[PACE + crane] = pace;
            row[PRIORITY + crane] = priority;
            row[TARGET + crane] = NONE;
            return crane;
        }

        int property(int crane, int what) {
            int block = ANGLE + what * CRANES;
            return block == OCCUPIED ? zonesOccupiedBy(crane) : row[block + crane];
        }

        int changePriority(int crane, int priority) {
            int previous = row[PRIORITY + crane];
            row[PRIORITY + crane] = priority;
            return previous;
        }

        int waitOf(int crane) {
            return row[WAIT + crane];
        }

        boolean isOnStep(int crane) {
            return row[PROGRESS + crane] > 0;
        }

        boolean isLeft(int crane) {
            return row[LEFT + crane] == 1;
        }

        boolean canBeLeft(int crane) {
            int zones = zonesWithArc(crane);
            for (int other = 0; other < row[CRANE_COUNT]; other++) {
                if (other != crane && (zonesOccupiedBy(other) & zones) != 0) {
                    return false;
                }
            }
            return !isOnStep(crane);
        }

        void leaveToWind(int crane) {
            dropTarget(crane);
            row[LEFT + crane] = 1;
        }

        void takeBack(int crane) {
            row[LEFT + crane] = 0;
        }

        // -- targets

        boolean hasTarget(int crane) {
            return row[TARGET + crane] != NONE;
        }

        boolean canAim(int crane) {
            return !isOnStep(crane) && !isLeft(crane);
        }

        /** Gives a crane its target, the shorter way round if way is 0; returns the steps to it. */
        int aim(int crane, int target, int way) {
            int angle = row[ANGLE + crane];
            if (angle == target) {
                dropTarget(crane);
                return 0;
            }
            row[TARGET + crane] = target;
            row[WAY + crane] = way == 0 ? shorterWay(angle, target) : way;
            return stepsToTarget(crane);
        }

        int changeWay(int crane) {
            row[WAY + crane] = -row[WAY + crane];
            return stepsToTarget(crane);
        }

        /** Returns the target that the crane had, or NONE. */
        int dropTarget(int crane) {
            int target = row[TARGET + crane];
            row[TARGET + crane] = NONE;
            row[WAY + crane] = 0;
            return target;
        }

        int stepsToTarget(int crane) {
            int angle = row[ANGLE + crane];
            int target = row[TARGET + crane];
            return row[WAY + crane] == 1 ? stepsClockwise(angle, target) : stepsClockwise(target, angle);
        }

        int ticksToTarget(int crane) {
            return stepsToTarget(crane) * row[PACE + crane] - row[PROGRESS + crane];
        }

        int cranesWithTarget() {
            int set = 0;
            for (int crane = 0; crane < row[CRANE_COUNT]; crane++) {
                if (hasTarget(crane)) {
                    set |= 1 << crane;
                }
            }
            return set;
        }

        // -- arcs and zones

        int firstOf(int crane, int zone) {
            return row[FIRST + crane * ZONES + zone];
        }

        int lastOf(int crane, int zone) {
            return row[LAST + crane * ZONES + zone];
        }

        boolean hasArc(int crane, int zone) {
            return firstOf(crane, zone) != NONE;
        }

        void setLimits(int crane, int zone, int first, int last) {
            row[FIRST + crane * ZONES + zone] = first;
            row[LAST + crane * ZONES + zone] = last;
        }

        int zonesWithArc(int crane) {
            int set = 0;
            for (int zone = 0; zone < ZONES; zone++) {
                if (row[FIRST + crane * ZONES + zone] != NONE) {
                    set |= 1 << zone;
                }
            }
            return set;
        }

        /** The zones whose arc of the crane contains the angle. */
        int zonesAtAngle(int crane, int angle) {
            int set = 0;
            for (int zone = 0; zone < ZONES; zone++) {
                int first = row[FIRST + crane * ZONES + zone];
                int last = row[LAST + crane * ZONES + zone];
                // Both are counted clockwise from the first angle, as the arc may go across the angle 0.
                if (first != NONE && (angle - first + ANGLES) % ANGLES <= (last - first + ANGLES) % ANGLES) {
                    set |= 1 << zone;
                }
            }
            return set;
        }

        int zonesOccupiedBy(int crane) {
            if (isLeft(crane)) {
                return zonesWithArc(crane);
            }
            int set = zonesAtAngle(crane, row[ANGLE + crane]);
            return isOnStep(crane) ? set | zonesAtAngle(crane, nextAngle(crane)) : set;
        }

        int occupantsOf(int zone) {
            int set = 0;
            for (int crane = 0; crane < row[CRANE_COUNT]; crane++) {
                if ((zonesOccupiedBy(crane) & 1 << zone) != 0) {
                    set |= 1 << crane;
                }
            }
            return set;
        }

        boolean isConflict(int zone) {
            return Integer.bitCount(occupantsOf(zone)) > 1;
        }

        int conflictSet() {
            int set = 0;
            for (int zone = 0; zone < ZONES; zone++) {
                if (isConflict(zone)) {
                    set |= 1 << zone;
                }
            }
            return set;
        }

        // -- turning

        /** Lets one tick pass; returns whether any jib moved in it. */
        boolean passTick() {
            boolean moved = false;
            for (int priority = MOST_PRIORITY; priority >= 0; priority--) {
                for (int crane = 0; crane < row[CRANE_COUNT]; crane++) {
                    if (row[PRIORITY + crane] == priority && turnJib(crane)) {
                        moved = true;
                    }
                }
            }
            row[TIME]++;
            return moved;
        }

        private boolean turnJib(int crane) {
            if (isLeft(crane)) {
                return turnToWind(crane);
            }
            if (!hasTarget(crane)) {
                return false;
            }
            if (blockerOf(crane) != NONE) {
                row[WAIT + crane]++;
                return false;
            }
            row[PROGRESS + crane]++;
            if (row[PROGRESS + crane] == row[PACE + crane]) {
                endStep(crane);
            }
            return true;
        }

        private boolean turnToWind(int crane) {
            int angle = row[ANGLE + crane];
            if (angle == row[WIND]) {
                return false;
            }
            row[ANGLE + crane] = (angle + shorterWay(angle, row[WIND]) + ANGLES) % ANGLES;
            return true;
        }

        void endStep(int crane) {
            row[ANGLE + crane] = nextAngle(crane);
            row[PROGRESS + crane] = 0;
            row[STEPS + crane]++;
            if (row[ANGLE + crane] == row[TARGET + crane]) {
                dropTarget(crane);
            }
        }

        private int nextAngle(int crane) {
            return (row[ANGLE + crane] + row[WAY + crane] + ANGLES) % ANGLES;
        }

        // -- waiting

        /** The blocker of a crane, or NONE if it is not blocked: there is one just if it may not begin a step. */
        int blockerOf(int crane) {
            if (!hasTarget(crane) || isOnStep(crane)) {
                return NONE;
            }
            int needed = zonesAtAngle(crane, nextAngle(crane));
            for (int other = 0; other < row[CRANE_COUNT]; other++) {
                if (other != crane && (zonesOccupiedBy(other) & needed) != 0) {
                    return other;
                }
            }
            return NONE;
        }

        int cycleSet() {
            int set = 0;
            for (int crane = 0; crane < row[CRANE_COUNT]; crane++) {
                if (blockersLeadBackTo(crane)) {
                    set |= 1 << crane;
                }
            }
            return set;
        }

        private boolean blockersLeadBackTo(int crane) {
            int at = crane;
            for (int k = 0; k < CRANES; k++) {
                at = blockerOf(at);
                if (at == NONE || at == crane) {
                    return at == crane;
                }
            }
            return false;
        }

        // -- notes

        int noteCount() {
            return row[NOTE_COUNT];
        }

        int partOfNote(int note, int part) {
            return row[NOTE + note * PARTS + part];
        }

        void putNote(int crane, int reason, int conflictSet) {
            int at = NOTE + row[NOTE_COUNT] * PARTS;
            row[at] = row[TIME];
            row[at + 1] = crane;
            row[at + 2] = reason;
            row[at + 3] = conflictSet;
            row[NOTE_COUNT]++;
        }

        /** Returns how many notes there were. */
        int dropNotes() {
            int before = row[NOTE_COUNT];
            row[NOTE_COUNT] = 0;
            return before;
        }

        // -- hash

        long hash() {
            long h = 17;
            h = 31 * h + row[TIME];
            h = 31 * h + row[WIND];
            h = 31 * h + row[CRANE_COUNT];
            for (int crane = 0; crane < row[CRANE_COUNT]; crane++) {
                h = hashWithCrane(h, crane);
            }
            h = 31 * h + row[NOTE_COUNT];
            for (int at = NOTE; at < NOTE + row[NOTE_COUNT] * PARTS; at++) {
                h = 31 * h + row[at];
            }
            return h;
        }

        private long hashWithCrane(long before, int crane) {
            long h = before;
            for (int what = 0; what < PROPERTIES; what++) {
                h = 31 * h + property(crane, what);
            }
            for (int zone = 0; zone < ZONES; zone++) {
                h = 31 * h + firstOf(crane, zone);
                h = 31 * h + lastOf(crane, zone);
            }
            return h;
        }
    }

    /** The latest states, in a ring of rows. */
    private static final class History {
        private static final int STATES = 5;

        private final int[] rows = new int[STATES * Site.ROW];
        private int size = 0;
        private int next = 0;

        boolean isEmpty() {
            return size == 0;
        }

        void keep(Site site) {
            site.saveTo(rows, next * Site.ROW);
            next = next + 1 < STATES ? next + 1 : 0;
            size = Math.min(size + 1, STATES);
        }

        /** Removes the latest state and restores it; returns how many are left. */
        int restore(Site site) {
            next = next > 0 ? next - 1 : STATES - 1;
            size--;
            site.loadFrom(rows, next * Site.ROW);
            return size;
        }
    }

    /** The text, and the commands that the latest reading found in it. */
    private static final class Text {
        private static final int MOST_BYTES = 80;
        /** The shortest command and its semicolon are 4 bytes. */
        private static final int MOST_COMMANDS = MOST_BYTES / 4;
        private static final int END = -1;
        private static final int BAD_WAY = 2;
        private static final int BAD_ANGLE = -1;

        private final int[] bytes = new int[MOST_BYTES];
        private int length = 0;
        private int position = 0;

        private final int[] craneOf = new int[MOST_COMMANDS];
        private final int[] wayOf = new int[MOST_COMMANDS];
        private final int[] targetOf = new int[MOST_COMMANDS];
        private int commands = 0;

        boolean isFull() {
            return length >= MOST_BYTES;
        }

        int append(int code) {
            bytes[length] = code;
            length++;
            return length;
        }

        int empty() {
            int before = length;
            length = 0;
            return before;
        }

        /** Finds the commands of the text; returns its fault, or NONE. */
        int read(Site site) {
            position = 0;
            commands = 0;
            for (int k = 0; k < MOST_COMMANDS; k++) {
                int fault = readCommand(k, site);
                if (fault != NONE) {
                    return fault;
                }
                commands = k + 1;
                skipBlanks();
                if (byteHere() == END) {
                    return NONE;
                }
                if (byteHere() != ';') {
                    return position;
                }
                position++;
            }
            return position;
        }

        void carryOut(Site site) {
            for (int k = 0; k < commands; k++) {
                site.aim(craneOf[k], targetOf[k], wayOf[k]);
            }
        }

        /** Reads command k; returns its fault (which is the length where the text ends), or NONE. */
        private int readCommand(int k, Site site) {
            skipBlanks();
            int crane = byteHere() - '0';
            if (!site.hasCrane(crane) || !site.canAim(crane)) {
                return position;
            }
            position++;
            skipBlanks();
            int way = wayHere();
            if (way == BAD_WAY) {
                return position;
            }
            position++;
            skipBlanks();
            int start = position;
            int target = readAngle();
            if (target == BAD_ANGLE) {
                return start;
            }
            craneOf[k] = crane;
            wayOf[k] = way;
            targetOf[k] = target;
            return NONE;
        }

        private int byteHere() {
            return position < length ? bytes[position] : END;
        }

        private void skipBlanks() {
            while (position < length && bytes[position] == ' ') {
                position++;
            }
        }

        private int wayHere() {
            switch (byteHere()) {
                case '>':
                    return 1;
                case '<':
                    return -1;
                case '~':
                    return 0;
                default:
                    return BAD_WAY;
            }
        }

        private int readAngle() {
            int value = 0;
            int digits = 0;
            while (position < length && bytes[position] >= '0' && bytes[position] <= '9') {
                // A number with a third digit is refused, so its value may stay below.
                value = digits < 2 ? 10 * value + bytes[position] - '0' : value;
                digits++;
                position++;
            }
            return digits >= 1 && digits <= 2 && isAngle(value) ? value : BAD_ANGLE;
        }
    }
}
