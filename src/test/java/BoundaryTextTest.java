/** The boundary cases of the text and its commands: the promises 29 to 32. */
final class BoundaryTextTest {
    private static final String TEXT = "Text";

    private BoundaryTextTest() {
    }

    static void run() {
        atMost80Bytes();
        lists();
        commands();
        craneDigits();
        angles();
        anglesWithMoreDigits();
        ways();
        blanks();
        blanksWithinNumbers();
        otherBytesAreNoBlanks();
        faultIsTheFirstByte();
        faultOfAnAngle();
        faultOfACrane();
        faultAtTheEnd();
        faultIsReadAnew();
        type();
        typeIsNotCheckedBefore();
        clearText();
        textFault();
        commandInOrder();
        commandAsSlew();
        commandLeavesTheText();
        commandCounts();
        commandWithAFault();
    }

    /** Four cranes at the angle 0 and this text. */
    private static CraneGuard withText(String text) {
        CraneGuard x = Sites.withCranes(0, 0, 0, 0);
        Sites.type(x, text);
        return x;
    }

    private static void dueFault(String text, int due) {
        Check.due("textFault() of '" + text + "'", withText(text).textFault(), due);
        boolean refused = withText(text).command() == Sites.BAD_STATE;
        Check.holds("command() of '" + text + "' is refused if there is a fault", refused == (due != Sites.NONE));
    }

    private static String blanksOf(int many) {
        return " ".repeat(many);
    }

    private static void atMost80Bytes() {
        Doc.says(TEXT, "Commands can be given by a text of at most 80 bytes with this grammar:");
        CraneGuard x = Sites.withCranes(0);
        for (int length = 1; length <= 77; length++) {
            Check.due("type(32)", x.type(' '), length);
        }
        Check.due("type() of byte 78", x.type('0'), 78);
        Check.due("type() of byte 79", x.type('>'), 79);
        Check.due("type() of byte 80", x.type('7'), 80);
        Check.due("type() of byte 81", x.type('1'), Sites.FULL);
        Check.due("textFault() of 80 bytes", x.textFault(), Sites.NONE);
        Check.due("command() of 80 bytes", x.command(), 1);
        Check.due("the target, without byte 81", x.crane(0, Sites.TARGET), 7);
    }

    private static void lists() {
        Doc.says(TEXT, "list = command { \";\" command }");
        dueFault("0>1", Sites.NONE);
        dueFault("0>1;0>2", Sites.NONE);
        dueFault(";0>1", 0);
        dueFault("0>1;", 4);
        dueFault("0>1;;0>2", 4);
        dueFault("0>1 0>2", 4);
        dueFault("0>1,0>2", 3);
        StringBuilder twenty = new StringBuilder("0>1");
        for (int many = 2; many <= 20; many++) {
            twenty.append(";").append(many % 4).append(">").append(many % 10);
            dueFault(twenty.toString(), Sites.NONE);
            dueFault(twenty + ";", twenty.length() + 1);
        }
        Check.due("the length of twenty commands", twenty.length(), 79);
        Check.due("command() of twenty commands", withText(twenty.toString()).command(), 3);
    }

    private static void commands() {
        Doc.says(TEXT, "command = crane ( \">\" | \"<\" | \"~\" ) angle");
        for (char way : new char[] {'>', '<', '~'}) {
            dueFault("0" + way + "1", Sites.NONE);
            dueFault(way + "1", 0);
            dueFault("0" + way, 2);
            dueFault("0" + way + way + "1", 2);
            dueFault("0" + way + ";1>1", 2);
        }
        dueFault("01", 1);
        dueFault("0;", 1);
        dueFault("0>1>2", 3);
        dueFault("0>1<", 3);
        for (char wrong : new char[] {'=', ';', '?', '}', 127, '-', '+', 'v', 0, 255}) {
            dueFault("0" + wrong + "1", 1);
        }
    }

    private static void craneDigits() {
        Doc.says(TEXT, "A crane is a digit, 0 to 3;");
        for (int digit = 0; digit <= 9; digit++) {
            dueFault(digit + ">1", digit <= 3 ? Sites.NONE : 0);
            dueFault("0>1;" + digit + ">1", digit <= 3 ? Sites.NONE : 4);
        }
        dueFault("00>1", 1);
        dueFault("/>1", 0);
        dueFault(":>1", 0);
        dueFault("-1>1", 0);
        dueFault("+0>1", 0);
    }

    private static void angles() {
        Doc.says(TEXT, "an angle is a number, 0 to 35, with 1 or 2 digits.");
        for (int angle = 0; angle <= 99; angle++) {
            String number = (angle < 10 ? "0" : "") + angle;
            dueFault("1>" + number, angle <= 35 ? Sites.NONE : 2);
            if (angle < 10) {
                dueFault("1>" + angle, Sites.NONE);
                dueTarget("1>" + angle, angle);
            }
            if (angle <= 35) {
                dueTarget("1>" + number, angle);
            }
        }
        dueFault("1>/", 2);
        dueFault("1>:", 2);
        dueFault("1>1/", 3);
        dueFault("1>1:", 3);
        dueFault("1>-1", 2);
        dueFault("1>+1", 2);
    }

    private static void dueTarget(String text, int angle) {
        CraneGuard x = withText(text);
        x.command();
        Check.due("the target of '" + text + "'", x.crane(1, Sites.TARGET), angle == 0 ? Sites.NONE : angle);
    }

    private static void anglesWithMoreDigits() {
        Doc.says(TEXT, "has more than two digits its first digit, 05 is 5;");
        dueTarget("1>05", 5);
        dueTarget("1>00", 0);
        dueFault("1>000", 2);
        dueFault("1>005", 2);
        dueFault("1>035", 2);
        dueFault("1>100", 2);
        dueFault("1>350", 2);
        dueFault("1>999", 2);
        dueFault("1>4294967296", 2);
        dueFault("1>" + "0".repeat(78), 2);
        dueFault("1>" + "9".repeat(78), 2);
        dueFault("0>1; 1 > 005 ;0>1", 9);
    }

    private static void ways() {
        Doc.says(TEXT, "The crane gets the angle as its target, with the way 1 (>), -1 (<), or the shorter one (~).");
        for (int target = 1; target < 36; target++) {
            dueWay(">" + target, 1, target);
            dueWay("<" + target, -1, 36 - target);
            dueWay("~" + target, target <= 18 ? 1 : -1, Math.min(target, 36 - target));
        }
        for (char way : new char[] {'>', '<', '~'}) {
            CraneGuard x = withText("2" + way + "0");
            x.slew(2, 7, 1);
            Check.due("command() to its own angle", x.command(), 0);
            Check.due("its way", x.crane(2, Sites.WAY), 0);
        }
    }

    private static void dueWay(String command, int way, int steps) {
        CraneGuard x = withText("2" + command);
        x.command();
        Check.due("the way of '2" + command + "'", x.crane(2, Sites.WAY), way);
        Check.due("the steps of '2" + command + "'", x.needs(2), steps);
    }

    private static void blanks() {
        Doc.says(TEXT, "Blanks (32) may stand anywhere except within numbers");
        dueFault(" 0>12;1<3", Sites.NONE);
        dueFault("0 >12;1<3", Sites.NONE);
        dueFault("0> 12;1<3", Sites.NONE);
        dueFault("0>12 ;1<3", Sites.NONE);
        dueFault("0>12; 1<3", Sites.NONE);
        dueFault("0>12;1 <3", Sites.NONE);
        dueFault("0>12;1< 3", Sites.NONE);
        dueFault("0>12;1<3 ", Sites.NONE);
        dueFault("   0   >   12   ;   1   <   3   ", Sites.NONE);
        dueFault(blanksOf(77) + "0>1", Sites.NONE);
        dueFault("0" + blanksOf(77) + ">1", Sites.NONE);
        dueFault("0>" + blanksOf(77) + "1", Sites.NONE);
        dueFault("0>1" + blanksOf(77), Sites.NONE);
    }

    private static void blanksWithinNumbers() {
        Doc.says(TEXT, "(a blank ends a number).");
        dueFault("0>1 2", 4);
        dueFault("0>1  2", 5);
        dueFault("0>35 0", 5);
        dueFault("0>3 6", 4);
        dueFault("0>36 0", 2);
        dueFault("0>0 0 0", 4);
        dueTarget("1>3 ;1>4 ", 4);
    }

    private static void otherBytesAreNoBlanks() {
        Doc.says(TEXT, "Blanks (32)");
        for (char code : new char[] {0, 9, 10, 11, 12, 13, 31, 33, 127, 128, 160, 255}) {
            dueFault(code + "0>1", 0);
            dueFault("0" + code + ">1", 1);
            dueFault("0>" + code + "1", 2);
            dueFault("0>1" + code, 3);
            dueFault("0>12" + code, 4);
            dueFault("0>1;" + code + "1>1", 4);
        }
    }

    private static void faultIsTheFirstByte() {
        Doc.says(TEXT, "The fault of the text is the position, from 0, of the first byte that is not allowed at its "
                + "place");
        dueFault("x", 0);
        dueFault("xx", 0);
        dueFault(" x x", 1);
        dueFault("0xx", 1);
        dueFault("9>99;x", 0);
        dueFault("0>99;9>1", 2);
        dueFault("0>1;9>99", 4);
        dueFault("0>1;1>99;9", 6);
        dueFault(blanksOf(79) + "x", 79);
        dueFault("0>1" + blanksOf(76) + "x", 79);
    }

    private static void faultOfAnAngle() {
        Doc.says(TEXT, "(for an angle that is out of its range or has more than two digits its first digit,");
        dueFault("0>36", 2);
        dueFault("0>  36", 4);
        dueFault("0>36;", 2);
        dueFault("0>36x", 2);
        dueFault("0>360", 2);
        dueFault("0>35x", 4);
        dueFault("0>1;0>36", 6);
        dueFault(blanksOf(76) + "0>36", 78);
        dueFault(blanksOf(76) + "0>35", Sites.NONE);
    }

    private static void faultOfACrane() {
        Doc.says(TEXT, "also a crane that does not exist, is left to the wind, or is on a step),");
        for (int cranes = 0; cranes <= 4; cranes++) {
            CraneGuard x = Sites.withCranes(new int[cranes]);
            for (int crane = 0; crane < 4; crane++) {
                Sites.typeAnew(x, " " + crane + ">1");
                Check.due("crane " + crane + " of " + cranes, x.textFault(), crane < cranes ? Sites.NONE : 1);
            }
        }
        int[] due = {Sites.NONE, 4, 4, Sites.NONE};
        for (int crane = 0; crane < 4; crane++) {
            CraneGuard x = Boundary.busy();
            Sites.typeAnew(x, "0>1;" + crane + ">2");
            Check.due("crane " + crane + " of a busy site", x.textFault(), due[crane]);
            Sites.typeAnew(x, crane + ">99");
            Check.due("the crane before its angle", x.textFault(), due[crane] == 4 ? 0 : 2);
            Sites.typeAnew(x, crane + "");
            Check.due("the crane alone", x.textFault(), due[crane] == 4 ? 0 : 1);
            Sites.typeAnew(x, "0>x;" + crane + ">2");
            Check.due("a fault before the crane", x.textFault(), 2);
        }
    }

    private static void faultAtTheEnd() {
        Doc.says(TEXT, "or its length, if it ends too early (also if it is empty).");
        dueFault("", 0);
        String[] early = {" ", "0", "0 ", "0>", "0> ", "0>1;", "0>1; ", "0>1;1", "0>1;1>", "0>1;1~ ", blanksOf(80),
            blanksOf(79) + "0", blanksOf(78) + "0>", blanksOf(76) + "0>1;", "0>1;" + blanksOf(76)};
        for (String text : early) {
            dueFault(text, text.length());
        }
    }

    private static void faultIsReadAnew() {
        Doc.says(31, "Checks the text.");
        CraneGuard x = new CraneGuard();
        Sites.type(x, "0>1;1>1");
        Check.due("textFault() without cranes", x.textFault(), 0);
        x.addCrane(0, 2, 0);
        Check.due("textFault() with one crane", x.textFault(), 4);
        x.addCrane(0, 2, 0);
        Check.due("textFault() with two cranes", x.textFault(), Sites.NONE);
        x.command();
        x.tick(1);
        Check.due("textFault() on a step", x.textFault(), 0);
        x.undo();
        Check.due("textFault() behind undo()", x.textFault(), Sites.NONE);
        x.leave(1, true);
        Check.due("textFault() with one left", x.textFault(), 4);
        x.leave(1, false);
        Check.due("textFault() with none left", x.textFault(), Sites.NONE);
    }

    private static void type() {
        Doc.says(29, "Appends a byte to the text.");
        Doc.says(29, "- `code`: the byte, 0 to 255");
        Doc.says(29, "BAD_VALUE if code is out of range;");
        Boundary.range("code", Boundary::busy, CraneGuard::type, 0, 255, Sites.BAD_VALUE);
        Doc.says(29, "Returns the length of the text;");
        CraneGuard x = new CraneGuard();
        for (int length = 1; length <= 80; length++) {
            Check.due("type()", x.type(255), length);
        }
        Doc.says(29, "FULL if the text has 80 bytes.");
        Boundary.Maker full = () -> withText("0>1" + blanksOf(77));
        Boundary.refused("type(32)", full, y -> y.type(' '), Sites.FULL);
        Boundary.refused("type(0)", full, y -> y.type(0), Sites.FULL);
        Boundary.refused("type(-1)", full, y -> y.type(-1), Sites.BAD_VALUE);
        Boundary.refused("type(256)", full, y -> y.type(256), Sites.BAD_VALUE);
        x.clearText();
        Check.due("type() behind clearText()", x.type(0), 1);
    }

    private static void typeIsNotCheckedBefore() {
        Doc.says(29, "Appends a byte to the text.");
        // A byte out of its range is not cut to its last 8 bits, and is not appended.
        CraneGuard x = withText("0>");
        for (int bad : new int[] {'1' + 256, '1' - 256, '1' + 65536, '1' - 65536}) {
            Check.due("type(" + bad + ")", x.type(bad), Sites.BAD_VALUE);
        }
        Check.due("textFault()", x.textFault(), 2);
        Check.due("type('1')", x.type('1'), 3);
        Check.due("textFault()", x.textFault(), Sites.NONE);
    }

    private static void clearText() {
        Doc.says(30, "Empties the text.");
        Doc.says(30, "Returns the length that it had.");
        for (int length : new int[] {0, 1, 79, 80}) {
            CraneGuard x = withText(blanksOf(length));
            Check.due("clearText() of " + length, x.clearText(), length);
            Check.due("clearText() again", x.clearText(), 0);
            Check.due("textFault() then", x.textFault(), 0);
            Check.due("command() then", x.command(), Sites.BAD_STATE);
            Check.due("type() then", x.type('0'), 1);
            Check.due("textFault() of the new byte alone", x.textFault(), 1);
        }
        CraneGuard longer = withText("0>1;1>2");
        longer.clearText();
        Sites.type(longer, "2>3");
        Check.due("command() of a shorter text", longer.command(), 1);
        Check.due("the target of the new text", longer.crane(2, Sites.TARGET), 3);
    }

    private static void textFault() {
        Doc.says(31, "Returns its fault; NONE if it has none.");
        Boundary.changesNothing("textFault()", Boundary::busy, CraneGuard::textFault, Sites.NONE);
        Boundary.Maker faulty = () -> withText("0>1;x");
        Boundary.changesNothing("textFault()", faulty, CraneGuard::textFault, 4);
    }

    private static void commandInOrder() {
        Doc.says(32, "Does the commands of the text, in their order, as slew() would.");
        dueTarget("1>5;1>7", 7);
        dueTarget("1>7;1>5", 5);
        dueTarget("1>7;1>0", 0);
        dueTarget("1>0;1>7", 7);
        CraneGuard x = withText("0>1;1<2;0<3;3~35;0~4");
        Check.due("command()", x.command(), 3);
        int[] targets = {4, 2, Sites.NONE, 35};
        int[] ways = {1, -1, 0, -1};
        for (int crane = 0; crane < 4; crane++) {
            Check.due("the target of " + crane, x.crane(crane, Sites.TARGET), targets[crane]);
            Check.due("the way of " + crane, x.crane(crane, Sites.WAY), ways[crane]);
        }
    }

    private static void commandAsSlew() {
        Doc.says(32, "as slew() would.");
        char[] signs = {'<', '~', '>'};
        for (int angle = 0; angle < 36; angle += 5) {
            for (int target = 0; target < 36; target++) {
                for (int way = -1; way <= 1; way++) {
                    CraneGuard x = Sites.withCranes(angle);
                    CraneGuard y = Sites.withCranes(angle);
                    Sites.type(x, "0" + signs[way + 1] + target);
                    x.command();
                    y.slew(0, target, way);
                    Check.due("from " + angle + " to " + target, x.digest(), y.digest());
                }
            }
        }
    }

    private static void commandLeavesTheText() {
        Doc.says(32, "The text stays.");
        CraneGuard x = withText("0>9;1<9");
        Check.due("command()", x.command(), 2);
        x.stop(0);
        Check.due("command() again", x.command(), 2);
        x.undo();
        Check.due("command() behind undo()", x.command(), 2);
        Check.due("clearText()", x.clearText(), 7);
    }

    private static void commandCounts() {
        Doc.says(32, "Returns how many cranes have a target then;");
        Check.due("command() with one", withText("0>1").command(), 1);
        Check.due("command() with none", withText("0>0").command(), 0);
        Check.due("command() with four", withText("0>1;1>1;2>1;3>1").command(), 4);
        CraneGuard x = withText("0~0;1~0");
        x.slew(0, 5, 1);
        x.slew(1, 5, 1);
        x.slew(2, 5, 1);
        x.slew(3, 5, 1);
        Check.due("command() takes some away", x.command(), 2);
        Check.due("command() counts the others as well", Boundary.busy().command(), 3);
    }

    private static void commandWithAFault() {
        Doc.says(32, "BAD_STATE if the text has a fault.");
        String[] faulty = {"", "0", "0>1;", "0>1;1>36", "0>1;1>5;2>7;3", "0>1;4>1", "0>1 1"};
        for (String text : faulty) {
            Boundary.refused("command() of '" + text + "'", () -> withText(text), CraneGuard::command,
                    Sites.BAD_STATE);
        }
        for (int crane = 1; crane <= 2; crane++) {
            String text = "0>1;" + crane + ">2";
            Boundary.Maker busy = () -> {
                CraneGuard x = Boundary.busy();
                Sites.typeAnew(x, text);
                return x;
            };
            Boundary.refused("command() of '" + text + "'", busy, CraneGuard::command, Sites.BAD_STATE);
        }
    }
}
