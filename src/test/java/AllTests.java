import java.io.IOException;
import java.nio.file.Files;
import java.nio.file.Path;

/** Runs every test of the project: its arguments are the paths of CoalForm.java and of the document. */
final class AllTests {
    private AllTests() {
    }

    public static void main(String[] args) throws IOException {
        Edge.read(Files.readString(Path.of(args[1])));
        FaceTests.all();
        LanguageTests.all(args[0]);
        TextTests.all();
        LawTests.all();
        FormTests.all();
        PeopleTests.all();
        PaperTests.all();
        ChartTests.all();
        RulingTests.all();
        EdgeTextTests.all();
        EdgeLawTests.all();
        EdgeFormTests.all();
        EdgePeopleTests.all();
        EdgePaperTests.all();
        EdgeChartTests.all();
        EdgeRulingTests.all();
        Edge.allNamed();
        RoomTests.all();
        FuzzTests.all();
        System.out.println(Check.passed + " passed, " + Check.failed + " failed");
        if (Check.failed != 0) {
            System.exit(1);
        }
    }
}
