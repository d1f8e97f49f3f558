/** Promises 29 to 32: the text and its commands. */
final class TextTest {
    private TextTest() {
    }

    static void run() {
        type();
        clearText();
        goodTexts();
        faults();
        faultsOfNumbers();
        faultsOfCranes();
        longTexts();
        everyByte();
        command();
        commandTwiceForACrane();
        commandErrors();
    }

    // Promise 29
    private static void type() {
        CraneGuard x = new CraneGuard();
        Check.due("p29 type(0)", x.type(0), 1);
        Check.due("p29 type(255)", x.type(255), 2);
        for (int bad : new int[] {-1, 256, Integer.MIN_VALUE, Integer.MAX_VALUE}) {
            Check.due("p29 type(" + bad + ")", x.type(bad), Sites.BAD_VALUE);
        }
        for (int length = 3; length <= 80; length++) {
            Check.due("p29 type(32)", x.type(32), length);
        }
        Check.due("p29 an 81st byte", x.type(32), Sites.FULL);
        Check.due("p29 BAD_VALUE before FULL", x.type(256), Sites.BAD_VALUE);
        Check.due("p29 it is not recorded", x.undo(), Sites.BAD_STATE);
        Check.due("p29 errors append nothing", x.clearText(), 80);
    }

    // Promise 30
    private static void clearText() {
        CraneGuard x = new CraneGuard();
        Check.due("p30 of an empty text", x.clearText(), 0);
        Sites.type(x, "0>1");
        Check.due("p30 clearText()", x.clearText(), 3);
        Check.due("p30 clearText() again", x.clearText(), 0);
        Check.due("p30 type(65)", x.type(65), 1);
        Check.due("p30 it is not recorded", x.undo(), Sites.BAD_STATE);
    }

    // Promise 31
    private static void goodTexts() {
        CraneGuard x = Sites.withCranes(0, 0, 0, 0);
        String[] good = {"0>0", "0>35", "3<05", "2~9", "0>1;1<2;2~3;3>4", " 0 > 1 ", "0>1 ;1>1", "0>1; 1>1",
            "   2   ~   00   ;   3   <   35   ", "0>1;0>2;0<3"};
        for (String text : good) {
            dueFault(x, text, Sites.NONE);
        }
    }

    private static void faults() {
        CraneGuard x = Sites.withCranes(0, 0, 0, 0);
        dueFault(x, "", 0);
        dueFault(x, "   ", 3);
        dueFault(x, "0", 1);
        dueFault(x, "0 ", 2);
        dueFault(x, "0>", 2);
        dueFault(x, "0> ", 3);
        dueFault(x, "0>1;", 4);
        dueFault(x, "0>1; ", 5);
        dueFault(x, "0>1;;", 4);
        dueFault(x, "0>1;1", 5);
        dueFault(x, ";", 0);
        dueFault(x, "0>1,1>1", 3);
        dueFault(x, "0=1", 1);
        dueFault(x, "0>>1", 2);
        dueFault(x, "00>1", 1);
        dueFault(x, "0 0>1", 2);
        dueFault(x, ">1", 0);
        dueFault(x, "0>1>1", 3);
        dueFault(x, "0>-1", 2);
        dueFault(x, "0>1\t", 3);
        dueFault(x, "x>1", 0);
        dueFault(x, " 0>1 x", 5);
        dueFault(x, "0>1 1>1", 4);
    }

    private static void faultsOfNumbers() {
        CraneGuard x = Sites.withCranes(0, 0, 0, 0);
        dueFault(x, "0>36", 2);
        dueFault(x, "0>99", 2);
        dueFault(x, "0>100", 2);
        dueFault(x, "0>001", 2);
        dueFault(x, "0> 360", 3);
        dueFault(x, "0>3 5", 4);
        dueFault(x, "0>35 0", 5);
        dueFault(x, "0>35x", 4);
        dueFault(x, "0>36x", 2);
        dueFault(x, "1>5;0>4294967296", 6);
        dueFault(x, "0>00000000000000000000000000000000", 2);
    }

    private static void faultsOfCranes() {
        CraneGuard x = new CraneGuard();
        dueFault(x, "0>1", 0);
        x.addCrane(0, 2, 0);
        dueFault(x, "0>1", Sites.NONE);
        dueFault(x, "1>1", 0);
        dueFault(x, "0>1; 1>1", 5);
        x.addCrane(0, 2, 0);
        x.addCrane(0, 2, 0);
        dueFault(x, "2>1", Sites.NONE);
        dueFault(x, "3>1", 0);
        x.addCrane(0, 2, 0);
        dueFault(x, "3>1", Sites.NONE);
        dueFault(x, "4>1", 0);
        dueFault(x, "9>1", 0);
        x.slew(2, 5, 1);
        dueFault(x, "1>1;2>1", Sites.NONE);
        x.tick(1);
        dueFault(x, "1>1;2>1", 4);
        x.tick(1);
        dueFault(x, "1>1;2>1", Sites.NONE);
        x.leave(1, true);
        dueFault(x, "2>1;1>1", 4);
        x.leave(1, false);
        dueFault(x, "2>1;1>1", Sites.NONE);
    }

    private static void longTexts() {
        CraneGuard x = Sites.withCranes(0, 0, 0, 0);
        StringBuilder commands = new StringBuilder();
        for (int k = 0; k < 20; k++) {
            commands.append("0>").append(k % 10).append(k < 19 ? ";" : "");
        }
        dueFault(x, commands.toString(), Sites.NONE);
        Check.due("p32 twenty commands", x.command(), 1);
        Check.due("p32 the last one counts", x.crane(0, Sites.TARGET), 9);
        x.type(' ');
        Check.due("p31 80 bytes", x.textFault(), Sites.NONE);
        dueFault(x, commands + ";", 80);
        dueFault(x, commands + "00", 78);
        dueFault(x, commands + "x", 79);
        StringBuilder blanks = new StringBuilder();
        for (int k = 0; k < 77; k++) {
            blanks.append(' ');
        }
        dueFault(x, blanks + "0>1", Sites.NONE);
        dueFault(x, blanks + " 0>1", 80);
        dueFault(x, blanks + "   1", 80);
    }

    private static void everyByte() {
        // Each byte at each place of a short text; what is allowed there is known.
        for (int code = 0; code <= 255; code++) {
            boolean crane = code >= '0' && code <= '2';
            boolean way = code == '>' || code == '<' || code == '~';
            boolean digit = code >= '0' && code <= '9';
            boolean blank = code == ' ';
            boolean next = code == ';';
            dueFaultWith(code, "", ">1", crane ? Sites.NONE : blank ? 1 : 0);
            dueFaultWith(code, "0", "1", way ? Sites.NONE : blank ? 2 : 1);
            dueFaultWith(code, "0>", "", digit ? Sites.NONE : blank ? 3 : 2);
            dueFaultWith(code, "0>1", "", digit || blank ? Sites.NONE : next ? 4 : 3);
            dueFaultWith(code, "0>12", "", digit ? 2 : blank ? Sites.NONE : next ? 5 : 4);
            dueFaultWith(code, "0>1 ", "1>1", next ? Sites.NONE : blank ? 5 : 4);
        }
    }

    private static void dueFaultWith(int code, String before, String behind, int due) {
        CraneGuard x = Sites.withCranes(0, 0, 0);
        Sites.type(x, before);
        x.type(code);
        Sites.type(x, behind);
        Check.due("p31 textFault() with " + code + " behind '" + before + "'", x.textFault(), due);
    }

    private static void dueFault(CraneGuard x, String text, int due) {
        Sites.typeAnew(x, text);
        Check.due("p31 textFault() of '" + text + "'", x.textFault(), due);
    }

    // Promise 32
    private static void command() {
        CraneGuard x = Sites.withCranes(0, 10, 20, 30);
        x.slew(3, 31, 1);
        Sites.type(x, " 0>35 ; 1<11;2~02");
        Check.due("p32 command()", x.command(), 4);
        int[] targets = {35, 11, 2, 31};
        int[] ways = {1, -1, 1, 1};
        int[] needs = {35, 35, 18, 1};
        for (int crane = 0; crane < 4; crane++) {
            Check.due("p32 crane(" + crane + ", 3)", x.crane(crane, Sites.TARGET), targets[crane]);
            Check.due("p32 crane(" + crane + ", 4)", x.crane(crane, Sites.WAY), ways[crane]);
            Check.due("p32 needs(" + crane + ")", x.needs(crane), needs[crane]);
        }
        Check.due("p32 recorded as one call", x.undo(), 4);
        Check.due("p32 no targets behind undo()", x.crane(0, Sites.TARGET), Sites.NONE);
        Check.due("p32 the text stays", x.command(), 4);
        Check.due("p32 the text stays", x.clearText(), 17);
        Sites.type(x, "0~0;1~10;3~30");
        Check.due("p32 to their own angles", x.command(), 1);
        Check.due("p32 no target", x.crane(0, Sites.TARGET), Sites.NONE);
        Check.due("p32 no target", x.crane(3, Sites.TARGET), Sites.NONE);
        Check.due("p32 crane 2 has one", x.crane(2, Sites.TARGET), 2);
        Sites.typeAnew(x, "2~3");
        x.command();
        Check.due("p32 the shorter way to 3", x.crane(2, Sites.WAY), -1);
    }

    private static void commandTwiceForACrane() {
        CraneGuard x = Sites.withCranes(0, 10);
        Sites.type(x, "0>5;1>12;0<7");
        Check.due("p32 command()", x.command(), 2);
        Check.due("p32 the later one counts", x.crane(0, Sites.TARGET), 7);
        Check.due("p32 with its way", x.crane(0, Sites.WAY), -1);
        Sites.typeAnew(x, "0>5;0>0");
        Check.due("p32 back to its own angle", x.command(), 1);
        Check.due("p32 no target", x.crane(0, Sites.TARGET), Sites.NONE);
    }

    private static void commandErrors() {
        CraneGuard x = new CraneGuard();
        Check.due("p32 of an empty text", x.command(), Sites.BAD_STATE);
        x.addCrane(0, 2, 0);
        x.addCrane(0, 2, 0);
        long before = x.digest();
        Sites.type(x, "0>5;1>");
        Sites.dueError(x, before, "p32 of a text with a fault", x.command(), Sites.BAD_STATE);
        x.type('5');
        Check.due("p32 of the whole text", x.command(), 2);
        x.tick(1);
        before = x.digest();
        Sites.dueError(x, before, "p32 of cranes on a step", x.command(), Sites.BAD_STATE);
        Check.due("p32 errors are not recorded", x.undo(), 3);
        Check.due("p32 behind undo()", x.command(), 2);
        x.leave(1, true);
        before = x.digest();
        Sites.dueError(x, before, "p32 of a crane left", x.command(), Sites.BAD_STATE);
        Check.due("p32 its text stays", x.clearText(), 7);
    }
}
