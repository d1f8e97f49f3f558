/** Promise 33: the digest, reckoned anew from what the other methods answer. */
final class DigestTest {
    private DigestTest() {
    }

    static void run() {
        newObject();
        withCranesAndNotes();
        textDoesNotCount();
    }

    // Promise 33
    private static void newObject() {
        CraneGuard x = new CraneGuard();
        // 17 * 31^4: the time, the wind, and the numbers of cranes and notes are all 0.
        Check.due("p33 of a new object", x.digest(), 17L * 31 * 31 * 31 * 31);
        x.tick(5);
        x.setWind(7);
        Check.due("p33 of a time and a wind", x.digest(), (((17L * 31 + 5) * 31 + 7) * 31) * 31);
        x.addCrane(1, 2, 3);
        Check.due("p33 of a crane", x.digest(), reckoned(x, 7));
    }

    private static void withCranesAndNotes() {
        CraneGuard x = Sites.inCycle();
        x.addCrane(30, 5, 9);
        x.addCrane(20, 1, 9);
        x.setArc(2, 5, 29, 2);
        x.setArc(2, 3, 0, 0);
        x.setWind(9);
        x.slew(2, 25, -1);
        x.tick(12);
        Check.due("p33 on a step", x.digest(), reckoned(x, 9));
        x.override(0, 4);
        x.leave(3, true);
        x.tick(3);
        x.override(1, 9);
        Check.due("p33 with notes", x.digest(), reckoned(x, 9));
        x.clearNotes();
        Check.due("p33 without notes", x.digest(), reckoned(x, 9));
    }

    private static long reckoned(CraneGuard x, int wind) {
        long h = 17;
        h = 31 * h + x.time();
        h = 31 * h + wind;
        h = 31 * h + x.cranes();
        for (int crane = 0; crane < x.cranes(); crane++) {
            for (int what = 0; what <= 9; what++) {
                h = 31 * h + x.crane(crane, what);
            }
            for (int zone = 0; zone < 6; zone++) {
                h = 31 * h + x.arc(crane, zone, false);
                h = 31 * h + x.arc(crane, zone, true);
            }
        }
        h = 31 * h + x.notes();
        for (int note = 0; note < x.notes(); note++) {
            for (int what = 0; what <= 3; what++) {
                h = 31 * h + x.note(note, what);
            }
        }
        return h;
    }

    private static void textDoesNotCount() {
        CraneGuard x = Sites.withCranes(3);
        long before = x.digest();
        Sites.type(x, "0>1");
        Check.due("p33 the text does not count", x.digest(), before);
    }
}
