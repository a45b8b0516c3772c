import java.io.IOException;

/** Runs every test of the project: its argument is the path of CoalForm.java. */
final class AllTests {
    private AllTests() {
    }

    public static void main(String[] args) throws IOException {
        FaceTests.all();
        LanguageTests.all(args[0]);
        TextTests.all();
        LawTests.all();
        FormTests.all();
        PeopleTests.all();
        PaperTests.all();
        ChartTests.all();
        RulingTests.all();
        RoomTests.all();
        FuzzTests.all();
        System.out.println(Check.passed + " passed, " + Check.failed + " failed");
        if (Check.failed != 0) {
            System.exit(1);
        }
    }
}
