/** Runs every test of the project; exit code 1 if one fails. */
public final class AllTests {
    private AllTests() {
    }

    public static void main(String[] args) {
        FaceTest.run();
        LanguageTest.run();
        CranesAndZonesTest.run();
        TurningTest.run();
        WaitingTest.run();
        WindAndOverridesTest.run();
        HistoryTest.run();
        TextTest.run();
        DigestTest.run();
        ModelTest.run();
        if (!Check.report()) {
            System.exit(1);
        }
    }
}
