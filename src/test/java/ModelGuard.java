import java.util.ArrayList;
import java.util.List;

/**
 * A second, slow CraneGuard to compare with: written from the document alone, by sets of angles and by copies
 * of whole states, sharing nothing with the program.
 */
final class ModelGuard {
    private static final int NONE = -100, BAD_INDEX = -101, BAD_VALUE = -102, BAD_STATE = -103, FULL = -104;

    private static final class Jib {
        int angle;
        int pace;
        int priority;
        Integer target;
        int way;
        int progress;
        int wait;
        int steps;
        boolean left;
        /** For each zone null, or the angles of the arc, going clockwise. */
        final List<List<Integer>> arcs = new ArrayList<>();

        Jib copy() {
            Jib c = new Jib();
            c.angle = angle;
            c.pace = pace;
            c.priority = priority;
            c.target = target;
            c.way = way;
            c.progress = progress;
            c.wait = wait;
            c.steps = steps;
            c.left = left;
            c.arcs.addAll(arcs);
            return c;
        }

        int next() {
            int n = angle + way;
            return n == 36 ? 0 : n == -1 ? 35 : n;
        }

        boolean contains(int zone, int a) {
            return arcs.get(zone) != null && arcs.get(zone).contains(a);
        }

        boolean occupies(int zone) {
            return contains(zone, angle) || progress > 0 && contains(zone, next())
                    || left && arcs.get(zone) != null;
        }

        int stepsToTarget() {
            int steps = 0;
            for (int a = angle; target != null && a != target; a = (a + way + 36) % 36) {
                steps++;
            }
            return steps;
        }

        void stepOnce() {
            angle = next();
            progress = 0;
            steps++;
            if (target != null && target == angle) {
                target = null;
                way = 0;
            }
        }
    }

    private static final class State {
        int time;
        int wind;
        List<Jib> jibs = new ArrayList<>();
        List<int[]> notes = new ArrayList<>();

        State copy() {
            State c = new State();
            c.time = time;
            c.wind = wind;
            for (Jib jib : jibs) {
                c.jibs.add(jib.copy());
            }
            c.notes.addAll(notes);
            return c;
        }

        boolean mayBegin(int j) {
            Jib jib = jibs.get(j);
            for (int zone = 0; zone < 6; zone++) {
                if (jib.contains(zone, jib.next()) && (occupants(zone) & ~(1 << j)) != 0) {
                    return false;
                }
            }
            return true;
        }

        int occupants(int zone) {
            int set = 0;
            for (int j = 0; j < jibs.size(); j++) {
                set += jibs.get(j).occupies(zone) ? 1 << j : 0;
            }
            return set;
        }

        int conflicts() {
            int set = 0;
            for (int zone = 0; zone < 6; zone++) {
                set += Integer.bitCount(occupants(zone)) > 1 ? 1 << zone : 0;
            }
            return set;
        }

        boolean blocked(int j) {
            Jib jib = jibs.get(j);
            return jib.target != null && jib.progress == 0 && !mayBegin(j);
        }

        int blocker(int j) {
            if (!blocked(j)) {
                return NONE;
            }
            Jib jib = jibs.get(j);
            for (int other = 0; other < jibs.size(); other++) {
                for (int zone = 0; zone < 6; zone++) {
                    if (other != j && jibs.get(other).occupies(zone) && jib.contains(zone, jib.next())) {
                        return other;
                    }
                }
            }
            throw new IllegalStateException("blocked by nobody");
        }

        void tick() {
            List<Integer> order = new ArrayList<>();
            for (int j = 0; j < jibs.size(); j++) {
                order.add(j);
            }
            order.sort((a, b) -> jibs.get(b).priority - jibs.get(a).priority);
            for (int j : order) {
                tick(j);
            }
            time++;
        }

        private void tick(int j) {
            Jib jib = jibs.get(j);
            if (jib.left) {
                int clockwise = (wind - jib.angle + 36) % 36;
                jib.angle += clockwise == 0 ? 0 : clockwise <= 18 ? 1 : 35;
                jib.angle %= 36;
            } else if (blocked(j)) {
                jib.wait++;
            } else if (jib.target != null) {
                jib.progress++;
                if (jib.progress == jib.pace) {
                    jib.stepOnce();
                }
            }
        }
    }

    private State now = new State();
    private final List<State> past = new ArrayList<>();
    private String text = "";

    private void record() {
        past.add(now.copy());
        if (past.size() > 5) {
            past.remove(0);
        }
    }

    private boolean in(int value, int from, int to) {
        return value >= from && value <= to;
    }

    private boolean noCrane(int crane) {
        return !in(crane, 0, now.jibs.size() - 1);
    }

    int addCrane(int angle, int pace, int priority) {
        if (!in(angle, 0, 35) || !in(pace, 1, 5) || !in(priority, 0, 9)) return BAD_VALUE;
        if (now.jibs.size() == 4) return FULL;
        record();
        Jib jib = new Jib();
        jib.angle = angle;
        jib.pace = pace;
        jib.priority = priority;
        for (int zone = 0; zone < 6; zone++) {
            jib.arcs.add(null);
        }
        now.jibs.add(jib);
        return now.jibs.size() - 1;
    }

    int setPriority(int crane, int priority) {
        if (noCrane(crane)) return BAD_INDEX;
        if (!in(priority, 0, 9)) return BAD_VALUE;
        record();
        int before = now.jibs.get(crane).priority;
        now.jibs.get(crane).priority = priority;
        return before;
    }

    int setArc(int crane, int zone, int first, int last) {
        if (noCrane(crane) || !in(zone, 0, 5)) return BAD_INDEX;
        if (!in(first, 0, 35) || !in(last, 0, 35)) return BAD_VALUE;
        if (now.jibs.get(crane).left) return BAD_STATE;
        List<Integer> arc = new ArrayList<>();
        for (int a = first; a != last; a = (a + 1) % 36) {
            arc.add(a);
        }
        arc.add(last);
        State then = now.copy();
        then.jibs.get(crane).arcs.set(zone, arc);
        if (Integer.bitCount(then.occupants(zone)) > 1 && Integer.bitCount(now.occupants(zone)) < 2) {
            return BAD_STATE;
        }
        record();
        now = then;
        return arc.size();
    }

    int removeArc(int crane, int zone) {
        if (noCrane(crane) || !in(zone, 0, 5)) return BAD_INDEX;
        record();
        return now.jibs.get(crane).arcs.set(zone, null) != null ? 1 : 0;
    }

    int cranes() {
        return now.jibs.size();
    }

    int crane(int crane, int what) {
        if (noCrane(crane)) return BAD_INDEX;
        Jib jib = now.jibs.get(crane);
        if (what == 0) return jib.angle;
        if (what == 1) return jib.pace;
        if (what == 2) return jib.priority;
        if (what == 3) return jib.target == null ? NONE : jib.target;
        if (what == 4) return jib.target == null ? 0 : jib.way;
        if (what == 5) return jib.progress;
        if (what == 6) return jib.wait;
        if (what == 7) return jib.left ? 1 : 0;
        if (what == 8) {
            int set = 0;
            for (int zone = 0; zone < 6; zone++) {
                set += jib.occupies(zone) ? 1 << zone : 0;
            }
            return set;
        }
        return what == 9 ? jib.steps : BAD_VALUE;
    }

    int arc(int crane, int zone, boolean last) {
        if (noCrane(crane) || !in(zone, 0, 5)) return BAD_INDEX;
        List<Integer> arc = now.jibs.get(crane).arcs.get(zone);
        return arc == null ? NONE : arc.get(last ? arc.size() - 1 : 0);
    }

    int occupants(int zone) {
        return in(zone, 0, 5) ? now.occupants(zone) : BAD_INDEX;
    }

    int conflicts() {
        return now.conflicts();
    }

    int slew(int crane, int target, int way) {
        if (noCrane(crane)) return BAD_INDEX;
        if (!in(target, 0, 35) || !in(way, -1, 1)) return BAD_VALUE;
        Jib jib = now.jibs.get(crane);
        if (jib.progress > 0 || jib.left) return BAD_STATE;
        record();
        jib.target = target;
        jib.way = way == 0 ? 1 : way;
        int steps = jib.stepsToTarget();
        if (way == 0 && steps > 18) {
            jib.way = -1;
            steps = jib.stepsToTarget();
        }
        if (steps == 0) {
            jib.target = null;
            jib.way = 0;
        }
        return steps;
    }

    int stop(int crane) {
        if (noCrane(crane)) return BAD_INDEX;
        Jib jib = now.jibs.get(crane);
        if (jib.progress > 0) return BAD_STATE;
        record();
        int target = jib.target == null ? NONE : jib.target;
        jib.target = null;
        jib.way = 0;
        return target;
    }

    int turnRound(int crane) {
        if (noCrane(crane)) return BAD_INDEX;
        Jib jib = now.jibs.get(crane);
        if (jib.target == null || jib.progress > 0) return BAD_STATE;
        record();
        jib.way = jib.way == 1 ? -1 : 1;
        return jib.stepsToTarget();
    }

    int tick(int many) {
        if (!in(many, 1, 200)) return BAD_VALUE;
        if (now.time + many > 100000) return FULL;
        record();
        for (int k = 0; k < many; k++) {
            now.tick();
        }
        return now.time;
    }

    int time() {
        return now.time;
    }

    int needs(int crane) {
        if (noCrane(crane)) return BAD_INDEX;
        Jib jib = now.jibs.get(crane);
        return jib.target == null ? 0 : jib.stepsToTarget() * jib.pace - jib.progress;
    }

    int blocker(int crane) {
        return noCrane(crane) ? BAD_INDEX : now.blocker(crane);
    }

    int cycle() {
        int set = 0;
        for (int crane = 0; crane < now.jibs.size(); crane++) {
            int at = crane;
            for (int k = 0; k < 10 && at != NONE; k++) {
                at = now.blocker(at);
                if (at == crane) {
                    set |= 1 << crane;
                }
            }
        }
        return set;
    }

    int allDone() {
        State then = now.copy();
        for (int ticks = 0; ticks <= 1000; ticks++) {
            if (then.jibs.stream().allMatch(jib -> jib.target == null)) return ticks;
            then.tick();
        }
        return NONE;
    }

    int done(int crane) {
        if (noCrane(crane)) return BAD_INDEX;
        State then = now.copy();
        for (int ticks = 0; ticks <= 1000; ticks++) {
            if (then.jibs.get(crane).target == null) return ticks;
            then.tick();
        }
        return NONE;
    }

    int waits(int crane, int many) {
        if (noCrane(crane)) return BAD_INDEX;
        if (!in(many, 1, 1000)) return BAD_VALUE;
        State then = now.copy();
        for (int k = 0; k < many; k++) {
            then.tick();
        }
        return then.jibs.get(crane).wait - now.jibs.get(crane).wait;
    }

    int setWind(int angle) {
        if (!in(angle, 0, 35)) return BAD_VALUE;
        record();
        int before = now.wind;
        now.wind = angle;
        return before;
    }

    int leave(int crane, boolean left) {
        if (noCrane(crane)) return BAD_INDEX;
        Jib jib = now.jibs.get(crane);
        if (left && !jib.left) {
            if (jib.progress > 0) return BAD_STATE;
            for (int zone = 0; zone < 6; zone++) {
                if (jib.arcs.get(zone) != null && (now.occupants(zone) & ~(1 << crane)) != 0) return BAD_STATE;
            }
        }
        record();
        boolean before = jib.left;
        jib.left = left;
        if (left) {
            jib.target = null;
            jib.way = 0;
        }
        return before ? 1 : 0;
    }

    int override(int crane, int reason) {
        if (noCrane(crane)) return BAD_INDEX;
        if (!in(reason, 1, 9)) return BAD_VALUE;
        Jib jib = now.jibs.get(crane);
        if (jib.target == null || jib.progress > 0) return BAD_STATE;
        if (now.notes.size() == 10) return FULL;
        record();
        jib.stepOnce();
        now.notes.add(new int[] {now.time, crane, reason, now.conflicts()});
        return now.conflicts();
    }

    int notes() {
        return now.notes.size();
    }

    int note(int note, int what) {
        if (!in(note, 0, now.notes.size() - 1)) return BAD_INDEX;
        return in(what, 0, 3) ? now.notes.get(note)[what] : BAD_VALUE;
    }

    int clearNotes() {
        record();
        int before = now.notes.size();
        now.notes.clear();
        return before;
    }

    int undo() {
        if (past.isEmpty()) return BAD_STATE;
        now = past.remove(past.size() - 1);
        return past.size();
    }

    int type(int code) {
        if (!in(code, 0, 255)) return BAD_VALUE;
        if (text.length() == 80) return FULL;
        text += (char) code;
        return text.length();
    }

    int clearText() {
        int before = text.length();
        text = "";
        return before;
    }

    /**
     * By states instead of by a descent: 0 before a crane, 1 before a way, 2 before a number, 3 behind one.
     */
    int textFault() {
        int place = 0;
        for (int k = 0; k < text.length(); k++) {
            char c = text.charAt(k);
            if (c == ' ') continue;
            boolean digit = c >= '0' && c <= '9';
            if (place == 0) {
                if (!digit || noCrane(c - '0')) return k;
                Jib jib = now.jibs.get(c - '0');
                if (jib.left || jib.progress > 0) return k;
                place = 1;
            } else if (place == 1) {
                if ("<>~".indexOf(c) < 0) return k;
                place = 2;
            } else if (place == 2) {
                String digits = text.substring(k).replaceAll("(?s)^([0-9]*).*$", "$1");
                if (!digits.matches("[0-9]|[0-9][0-9]") || Integer.parseInt(digits) > 35) return k;
                k += digits.length() - 1;
                place = 3;
            } else {
                if (c != ';') return k;
                place = 0;
            }
        }
        return place == 3 ? NONE : text.length();
    }

    int command() {
        if (textFault() != NONE) return BAD_STATE;
        record();
        State before = past.get(past.size() - 1);
        List<State> kept = new ArrayList<>(past);
        for (String command : text.replace(" ", "").split(";")) {
            int way = command.charAt(1) == '>' ? 1 : command.charAt(1) == '<' ? -1 : 0;
            slew(command.charAt(0) - '0', Integer.parseInt(command.substring(2)), way);
        }
        past.clear();
        past.addAll(kept);
        past.set(past.size() - 1, before);
        return (int) now.jibs.stream().filter(jib -> jib.target != null).count();
    }

    long digest() {
        long h = 17;
        h = 31 * h + now.time;
        h = 31 * h + now.wind;
        h = 31 * h + cranes();
        for (int crane = 0; crane < cranes(); crane++) {
            for (int what = 0; what < 10; what++) {
                h = 31 * h + crane(crane, what);
            }
            for (int zone = 0; zone < 6; zone++) {
                h = 31 * h + arc(crane, zone, false);
                h = 31 * h + arc(crane, zone, true);
            }
        }
        h = 31 * h + notes();
        for (int[] note : now.notes) {
            for (int part : note) {
                h = 31 * h + part;
            }
        }
        return h;
    }
}
