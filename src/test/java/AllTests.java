/** Runs all tests of the project; ends with exit code 1 if an answer was not the one that is due. */
public final class AllTests {
    private AllTests() {
    }

    public static void main(String[] args) {
        DescriptionTests.run();
        ChangeTests.run();
        ArmTests.run();
        CostTests.run();
        RunTests.run();
        TextTests.run();
        RoundEdgeTests.run();
        CostEdgeTests.run();
        RunEdgeTests.run();
        RefusalTests.run();
        ModelTests.run();
        FaceTests.run();
        LanguageTests.run();
        RoomTests.run();
        ReadmeTests.run();
        System.out.println(Check.right + " answers are as due, " + Check.wrong + " are not");
        if (Check.wrong != 0) {
            System.exit(1);
        }
    }
}
