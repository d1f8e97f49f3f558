import java.util.ArrayList;
import java.util.List;

/** What the boundary tests share: refused calls, recorded calls, ranges of arguments. */
final class Boundary {
    interface Maker {
        CraneGuard make();
    }

    interface Call {
        long on(CraneGuard x);
    }

    interface CallWith {
        long on(CraneGuard x, int value);
    }

    private Boundary() {
    }

    /**
     * Crane 0 is at the angle 0 without a target, 1 is on a step, 2 is left to the wind, and 3 has a target and is
     * blocked by 2. Crane 1 occupies zone 1, in which crane 0 has an arc. There are two notes and a text, and the
     * history is full.
     */
    static CraneGuard busy() {
        CraneGuard x = new CraneGuard();
        x.addCrane(34, 2, 3);
        x.addCrane(10, 3, 5);
        x.addCrane(20, 1, 0);
        x.addCrane(30, 1, 9);
        x.setArc(0, 1, 5, 6);
        x.setArc(1, 1, 10, 12);
        x.setArc(2, 0, 20, 20);
        x.setArc(3, 0, 31, 31);
        x.slew(0, 0, 1);
        x.override(0, 4);
        x.override(0, 5);
        x.leave(2, true);
        x.slew(1, 15, 1);
        x.slew(3, 33, 1);
        x.tick(1);
        Sites.type(x, "0>5");
        return x;
    }

    /** As busy(), with as many notes as are kept. */
    static CraneGuard busyWithTenNotes() {
        CraneGuard x = busy();
        x.slew(0, 35, 1);
        for (int note = 3; note <= 10; note++) {
            x.override(0, 1);
        }
        return x;
    }

    /** Two cranes without arcs, and nothing else. */
    static CraneGuard plain() {
        return Sites.withCranes(0, 18);
    }

    static boolean isError(long answer) {
        return answer >= CraneGuard.FULL && answer <= CraneGuard.BAD_INDEX;
    }

    /** The call must answer the error and change nothing: neither the state, nor the history, nor the text. */
    static void refused(String name, Maker site, Call call, int error) {
        Check.holds(error + " is an error", isError(error));
        changesNothing(name, site, call, error);
    }

    static void changesNothing(String name, Maker site, Call call, long answer) {
        CraneGuard x = site.make();
        CraneGuard untouched = site.make();
        Check.due(name, call.on(x), answer);
        Check.due(name + ", then textFault()", x.textFault(), untouched.textFault());
        Check.holds(name + " changes neither the state nor the history", past(x).equals(past(untouched)));
        Check.due(name + ", then command()", x.command(), untouched.command());
        Check.due(name + ", then digest()", x.digest(), untouched.digest());
        Check.due(name + ", then clearText()", x.clearText(), untouched.clearText());
    }

    static void taken(String name, Maker site, Call call) {
        Check.holds(name + " answers no error", !isError(call.on(site.make())));
    }

    /** The call must answer this, and undo() must lead back to the state before it, and then to those before that. */
    static void recorded(String name, Maker site, Call call, long answer) {
        CraneGuard x = site.make();
        Check.due(name, call.on(x), answer);
        List<Long> before = past(site.make());
        List<Long> behind = past(x);
        List<Long> due = before.subList(0, Math.min(5, before.size()));
        Check.holds(name + " is recorded once", behind.subList(1, behind.size()).equals(due));
    }

    /** The digests of the state and of those in the history, the latest first; uses the history up. */
    static List<Long> past(CraneGuard x) {
        List<Long> digests = new ArrayList<>();
        digests.add(x.digest());
        for (int k = 0; k < 10 && x.undo() >= 0; k++) {
            digests.add(x.digest());
        }
        return digests;
    }

    /** All values from low to high must be taken, those outside answered with the error. */
    static void range(String name, Maker site, CallWith call, int low, int high, int error) {
        int[] outside = {low - 1, low - 36, low - 1000, Integer.MIN_VALUE, Integer.MIN_VALUE + 1,
            high + 1, high + 36, high + 256, high + 65536, Integer.MAX_VALUE - 1, Integer.MAX_VALUE};
        for (int bad : outside) {
            refused(name + " with " + bad, site, x -> call.on(x, bad), error);
        }
        for (int good = low; good <= high; good++) {
            int value = good;
            taken(name + " with " + value, site, x -> call.on(x, value));
        }
    }
}
