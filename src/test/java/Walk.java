/** The document walked from its first line to its last: each sentence in its order, with what it asks for. */
final class Walk {
    private static String left = "";
    private static String last = "";
    private static int countedThen;

    private final String name;

    private Walk(String name) {
        this.name = name;
    }

    /** Headings, marks and the face are left out: FaceTests holds the class against the face. */
    static void start(String document) {
        left = joined(document.replaceAll("(?s)```java.*?```", "")
                .replaceAll("(?m)^(#.*|```.*|==== \\d\\. )", "")
                .replaceAll("(?m)^`[^`]*`: ", ""));
        last = "";
    }

    /** The next sentence; promise 0 stands for all of them. */
    static Walk on(int promise, String sentence) {
        step(sentence);
        last = sentence;
        countedThen = counted();
        return new Walk("promise " + promise + ", \"" + sentence + "\": ");
    }

    /** The next sentence, which no answer can break. */
    static void free(String sentence) {
        step(sentence);
        last = "";
    }

    static void end() {
        checkedLast();
        Check.due("walk: the document goes on: " + left, left.isEmpty(), true);
    }

    private static void step(String sentence) {
        checkedLast();
        boolean stands = left.startsWith(sentence);
        Check.due("walk: \"" + sentence + "\" comes next", stands, true);
        left = stands ? left.substring(sentence.length()).strip() : left;
    }

    private static void checkedLast() {
        Check.due("walk: something is checked of \"" + last + "\"", last.isEmpty() || counted() > countedThen, true);
    }

    private static int counted() {
        return Check.passed + Check.failed;
    }

    private static String joined(String text) {
        return text.replaceAll("\\s+", " ").strip();
    }

    void due(String what, long got, long want) {
        Check.due(name + what, got, want);
    }

    void due(String what, boolean got, boolean want) {
        Check.due(name + what, got, want);
    }

    /** What a law says on each case, of the lowest on. */
    void said(int facts, String law, int... due) {
        CoalForm x = new CoalForm(facts);
        int number = Check.law(x, law);
        due(law + " is a law", number, 0);
        for (int c = 0; c < due.length && number == 0; c++) {
            due(law + " on " + c, x.says(0, c), due[c]);
        }
    }

    /** The cases on which a condition is so, as bits. */
    void so(int facts, String condition, long due) {
        CoalForm x = new CoalForm(facts);
        Check.law(x, "1:" + condition);
        Check.question(x, condition);
        long bits = 0;
        for (int c = 0; c < 1 << facts; c++) {
            bits |= Edge.says(x, 0, c) == 1 ? 1L << c : 0;
        }
        due(condition + " is so", bits, due);
        due(condition + " as a question", x.given(0, 1, 1, 1), Long.bitCount(due));
    }

    void leads(int facts, String form, int... due) {
        CoalForm x = new CoalForm(facts);
        due(form + " is a form", Check.form(x, form), 0);
        for (int c = 0; c < due.length; c++) {
            due(form + " on " + c, Edge.leads(x, 0, c), due[c]);
        }
    }

    void fault(int facts, int sort, String text, int due) {
        due("fault(" + sort + ") of '" + text + "'", Check.faultOf(new CoalForm(facts), sort, text), due);
    }
}
