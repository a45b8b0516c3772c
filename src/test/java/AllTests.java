import java.io.IOException;
import java.nio.file.Files;
import java.nio.file.Path;

/** Runs every test of the project: its arguments are the paths of CoalForm.java, of the document and of README.md. */
final class AllTests {
    private AllTests() {
    }

    public static void main(String[] args) throws IOException, ReflectiveOperationException {
        String document = Files.readString(Path.of(args[1]));
        Edge.read(document);
        FaceTests.all();
        LanguageTests.all(args[0]);
        ReadmeTests.all(Files.readString(Path.of(args[2])));
        Walk.start(document);
        WalkTermsTests.all();
        WalkPromiseTests.all();
        Walk.end();
        TextTests.all();
        LawTests.all();
        FormTests.all();
        PeopleTests.all();
        PaperTests.all();
        ChartTests.all();
        RulingTests.all();
        EdgeTextTests.all();
        EdgeLawTests.all();
        EdgeFormTests.all();
        EdgePeopleTests.all();
        EdgePaperTests.all();
        EdgeChartTests.all();
        EdgeRulingTests.all();
        Edge.allNamed();
        RoomTests.all();
        GrammarTests.all();
        RelationTests.all();
        FuzzTests.all();
        System.out.println(Check.passed + " passed, " + Check.failed + " failed");
        if (Check.failed != 0) {
            System.exit(1);
        }
    }
}
