/** Runs every test of the project; exit code 1 if one fails. */
public final class AllTests {
    private AllTests() {
    }

    public static void main(String[] args) {
        FaceTest.run();
        LanguageTest.run();
        RulesTest.run();
        ReadmeTest.run();
        CranesAndZonesTest.run();
        TurningTest.run();
        WaitingTest.run();
        WindAndOverridesTest.run();
        HistoryTest.run();
        TextTest.run();
        DigestTest.run();
        boundaries();
        ModelTest.run();
        if (!Check.report()) {
            System.exit(1);
        }
    }

    private static void boundaries() {
        Doc.read();
        BoundaryCranesTest.run();
        BoundaryTurningTest.run();
        BoundaryWaitingTest.run();
        BoundaryWindTest.run();
        BoundaryTextTest.run();
        BoundaryHistoryTest.run();
        Doc.dueWhole();
    }
}
