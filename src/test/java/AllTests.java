/** Runs every test of the project: its argument is the path of CoalForm.java. */
final class AllTests {
    private AllTests() {
    }

    public static void main(String[] args) {
        FuzzTests.all();
        System.out.println(Check.passed + " passed, " + Check.failed + " failed");
        if (Check.failed != 0) {
            System.exit(1);
        }
    }
}
