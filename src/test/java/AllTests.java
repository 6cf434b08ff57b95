/** Runs every test of the project; ends with 1 if one fails. */
public final class AllTests {
    public static void main(String[] args) throws java.io.IOException {
        Due due = new Due();
        FaceTest.run(due);
        SizesTest.run(due);
        ReadmeTest.run(due);
        TextsTest.run(due);
        PricesTest.run(due);
        HoursTest.run(due);
        WaysTest.run(due);
        PlansTest.run(due);
        TextBoundsTest.run(due);
        HourBoundsTest.run(due);
        WayBoundsTest.run(due);
        RefusedTest.run(due);
        RandomRunsTest.run(due);
        System.out.println(due.passed + " passed, " + due.failed + " failed");
        if (due.failed > 0) {
            System.exit(1);
        }
    }
}
