/** The boundaries that promises 6 to 12, 32, 33, 39 and 41 name: what laws say. */
final class EdgeLawTests {
    /** Twelve clauses of like outcomes but the last one, which alone holds on b without a. */
    private static final String TWELVE = "1:a;".repeat(11) + "2:b";

    private EdgeLawTests() {
    }

    static void all() {
        saidOrThrown();
        firstThatHolds();
        atLeast();
        clausesThatHold();
        clashes();
        open();
        ith();
        sureOrNot();
        whatIsKnown();
        matters();
        always();
        mattersOrNone();
        proofs();
        proofsOfSeveral();
        parts();
        mends();
        swaps();
        burdens();
        offices();
    }

    private static CoalForm of(int facts, String... laws) {
        CoalForm x = new CoalForm(facts);
        for (String law : laws) {
            Check.due("a law is taken: " + law, Check.law(x, law) >= 0, true);
        }
        return x;
    }

    // ---- promise 6 ----

    private static void saidOrThrown() {
        Edge edge = Edge.of(6, "What a LAW SAYS on a CASE. NoSuchElementException: no such ones.");
        edge.refused("the first law, the first case", -1, x -> Edge.says(x, 0, 0));
        edge.refused("the last law, the last case", 3, x -> Edge.says(x, 2, 7));
        edge.refused("a law behind the last", Edge.THROWN, x -> Edge.says(x, 3, 7));
        edge.refused("a case behind the last", Edge.THROWN, x -> Edge.says(x, 2, 8));
        edge.refused("a law ahead of the first", Edge.THROWN, x -> Edge.says(x, -1, 0));
        edge.refused("a case ahead of the first", Edge.THROWN, x -> Edge.says(x, 0, -1));
        edge.refused("neither", Edge.THROWN, x -> Edge.says(x, -1, -1));
        for (int far : Edge.FAR) {
            edge.refused("a law far: " + far, Edge.THROWN, x -> Edge.says(x, far, 0));
            edge.refused("a case far: " + far, Edge.THROWN, x -> Edge.says(x, 0, far));
        }
        CoalForm x = new CoalForm(9);
        edge.due("no law is there yet", Edge.says(x, 0, 0), Edge.THROWN);
        for (int k = 0; k < 6; k++) {
            edge.due("law " + k + " is not there yet", Edge.says(x, k, 511), Edge.THROWN);
            Check.law(x, k + ":i");
            edge.due("law " + k + " is there", Edge.says(x, k, 511), k);
        }
        edge.due("six are the most", Edge.says(x, 6, 511), Edge.THROWN);
        edge.due("511 is the last case", Edge.says(x, 0, 512), Edge.THROWN);
    }

    private static void firstThatHolds() {
        Edge edge = Edge.of(6, "the OUTCOME of its first CLAUSE that holds (its CONDITION is so, and its UNLESS is not)");
        CoalForm x = of(2, "0:a;5:b", "5:b;0:a", "3:aub", TWELVE);
        int[][] due = {{-1, 0, 5, 0}, {-1, 0, 5, 5}, {-1, 3, -1, -1}, {-1, 1, 2, 1}};
        for (int law = 0; law < 4; law++) {
            for (int c = 0; c < 4; c++) {
                edge.due("law " + law + " on " + c, Edge.says(x, law, c), due[law][c]);
            }
        }
        Edge nothing = Edge.of(6, "or nothing (NONE)");
        nothing.due("no clause holds", Edge.says(x, 0, 0), CoalForm.NONE);
        nothing.due("one holds, and says 0", Edge.says(x, 0, 1), 0);
        nothing.due("its unless is so", Edge.says(x, 2, 3), CoalForm.NONE);
    }

    private static void atLeast() {
        Edge edge = Edge.of(6, "so many of these at least");
        CoalForm nine = new CoalForm(9);
        for (int least = 1; least <= 9; least++) {
            nine = least % 5 == 1 ? new CoalForm(9) : nine;
            int law = Check.law(nine, "1:" + least + "#abcdefghi");
            for (int c : new int[] {(1 << least) - 1, 511 & ~((1 << 9 - least) - 1)}) {
                edge.due(least + " on " + c, Edge.says(nine, law, c), 1);
                edge.due(least + ", one less than " + c, Edge.says(nine, law, c & c - 1), -1);
            }
        }
        CoalForm x = of(3, "1:1#b", "1:2#ac", "1:3#ac", "1:9#abc", "1:3#abc");
        for (int c = 0; c < 8; c++) {
            edge.due("one of b on " + c, Edge.says(x, 0, c), (c & 2) != 0 ? 1 : -1);
            edge.due("two of a, c on " + c, Edge.says(x, 1, c), (c & 5) == 5 ? 1 : -1);
            edge.due("three of a, c on " + c, Edge.says(x, 2, c), -1);
            edge.due("nine of three on " + c, Edge.says(x, 3, c), -1);
            edge.due("three of three on " + c, Edge.says(x, 4, c), c == 7 ? 1 : -1);
        }
    }

    // ---- promise 7 ----

    private static void clausesThatHold() {
        Edge edge = Edge.of(7, "Which of its CLAUSES hold on a CASE, as bits.");
        CoalForm x = of(2, TWELVE, "1:a;".repeat(11) + "1:a", "1:aub;1:b");
        int[][] due = {{0, 2047, 2048, 4095}, {0, 4095, 0, 4095}, {0, 1, 2, 2}};
        for (int law = 0; law < 3; law++) {
            for (int c = 0; c < 4; c++) {
                edge.due("law " + law + " on " + c, x.clauses(law, c), due[law][c]);
            }
        }
        Edge no = Edge.of(7, "`int clauses(int law, int cases)`: Which of its CLAUSES hold on a CASE, as bits. NONE: no such ones.");
        no.refused("the first law, the first case", 0, y -> y.clauses(0, 0));
        no.refused("the last law, the last case", 1, y -> y.clauses(2, 7));
        no.refused("a law behind the last", -1, y -> y.clauses(3, 7));
        no.refused("a case behind the last", -1, y -> y.clauses(2, 8));
        no.refused("a law ahead of the first", -1, y -> y.clauses(-1, 7));
        no.refused("a case ahead of the first", -1, y -> y.clauses(2, -1));
        for (int far : Edge.FAR) {
            no.refused("a law far: " + far, -1, y -> y.clauses(far, 0));
            no.refused("a case far: " + far, -1, y -> y.clauses(0, far));
        }
    }

    // ---- promise 8 ----

    private static void clashes() {
        Edge edge = Edge.of(8, "CLASH: two CLAUSES of unlike OUTCOMES hold.");
        CoalForm x = of(2, "1:a;1:b", "1:a;2:b", "1:a;2:bua", "1:a;1:a;0:a", TWELVE, "0:a");
        int[] due = {0, 1, 0, 2, 1, 0};
        for (int law = 0; law < due.length; law++) {
            edge.due("law " + law, x.gap(law, 0, -1), due[law]);
        }
        edge.due("on both alone", x.gap(1, 0, 0), 3);
        edge.due("the first and the twelfth", x.gap(4, 0, 0), 3);
        edge.due("the first and the third", x.gap(3, 0, 1), 3);
    }

    private static void open() {
        Edge edge = Edge.of(8, "OPEN: it says nothing.");
        CoalForm x = of(2, "0:a", "0:a|!a", "0:a&!a", "0:!(a&b)");
        int[] due = {2, 0, 4, 1};
        for (int law = 0; law < due.length; law++) {
            edge.due("law " + law, x.gap(law, 1, -1), due[law]);
        }
        edge.due("the last case", x.gap(3, 1, 0), 3);
        edge.due("to say 0 is not open", x.gap(0, 1, 1), 2);
    }

    private static void ith() {
        Edge edge = Edge.of(8, "how many (i NONE), the i-th. NONE: no such ones.");
        CoalForm x = of(3, "1:a&!a;2:a&!a", "0:a|!a;1:a|!a", "1:a;2:b&a");
        for (int i = -1; i < 10; i++) {
            edge.due("no clash, " + i, x.gap(0, 0, i), i == -1 ? 0 : -1);
            edge.due("all clash, " + i, x.gap(1, 0, i), i == -1 ? 8 : i < 8 ? i : -1);
            edge.due("all are open, " + i, x.gap(0, 1, i), i == -1 ? 8 : i < 8 ? i : -1);
            edge.due("none is open, " + i, x.gap(1, 1, i), i == -1 ? 0 : -1);
            edge.due("two clash, " + i, x.gap(2, 0, i), i == -1 ? 2 : i == 0 ? 3 : i == 1 ? 7 : -1);
        }
        CoalForm nine = of(9, "1:a&!a", "1:a|!a;2:a|!a");
        for (int what = 0; what < 2; what++) {
            edge.due("all of 512", nine.gap(1 - what, what, -1), 512);
            edge.due("the first of 512", nine.gap(1 - what, what, 0), 0);
            edge.due("the last of 512", nine.gap(1 - what, what, 511), 511);
            edge.due("one behind the last of 512", nine.gap(1 - what, what, 512), -1);
            edge.due("none of 512", nine.gap(what, what, -1), 0);
            edge.due("the first of none", nine.gap(what, what, 0), -1);
        }
        edge.refused("what 0", 0, y -> y.gap(1, 0, -1));
        edge.refused("what 1", 2, y -> y.gap(1, 1, -1));
        edge.refused("what 2", -1, y -> y.gap(1, 2, -1));
        edge.refused("what -1", -1, y -> y.gap(1, -1, -1));
        edge.refused("the last law", 4, y -> y.gap(2, 1, -1));
        edge.refused("a law behind the last", -1, y -> y.gap(3, 1, -1));
        edge.refused("a law ahead of the first", -1, y -> y.gap(-1, 1, -1));
        edge.refused("i -2", -1, y -> y.gap(1, 1, -2));
        edge.refused("the last i", 1, y -> y.gap(1, 1, 1));
        edge.refused("i behind the last", -1, y -> y.gap(1, 1, 2));
        for (int far : Edge.FAR) {
            edge.refused("a law far: " + far, -1, y -> y.gap(far, 1, -1));
            edge.refused("a what far: " + far, -1, y -> y.gap(1, far, -1));
            edge.refused("an i far: " + far, -1, y -> y.gap(1, 1, far));
        }
    }

    // ---- promise 9 ----

    private static void sureOrNot() {
        Edge edge = Edge.of(9, "what the LAW SAYS on all CASES that agree with that, if it is one thing (nothing is one, too)");
        CoalForm x = of(3, "1:!(a&b&c)", "0:a|!a", "0:a&!a", "5:a;0:!a");
        edge.due("one case of eight says otherwise", x.sure(0, 0, 0), -2);
        edge.due("one of two", x.sure(0, 3, 3), -2);
        edge.due("none of four", x.sure(0, 1, 0), 1);
        edge.due("the one case itself: nothing", x.sure(0, 7, 7), -1);
        edge.due("another case", x.sure(0, 7, 6), 1);
        edge.due("0 on all", x.sure(1, 0, 0), 0);
        edge.due("nothing on all", x.sure(2, 0, 0), -1);
        edge.due("0 or 5", x.sure(3, 6, 6), -2);
        edge.due("5", x.sure(3, 1, 1), 5);
        edge.due("0", x.sure(3, 1, 0), 0);
        CoalForm nine = of(9, "4:abcdefghi".replaceAll("([a-h])", "$1&"));
        edge.due("eight known, one open", nine.sure(0, 255, 255), -2);
        edge.due("nine known", nine.sure(0, 511, 511), 4);
        edge.due("nine known, one not so", nine.sure(0, 511, 255), -1);
        edge.due("the last one known, not so", nine.sure(0, 256, 0), -1);
        edge.due("the last one known, so", nine.sure(0, 256, 256), -2);
    }

    private static void whatIsKnown() {
        Edge edge = Edge.of(9, "KNOWN are some FACTS (bits) and which of these are so (bits within).");
        edge.refused("all known, all so", 1, x -> x.sure(0, 7, 7));
        edge.refused("more known than there are", -2, x -> x.sure(0, 8, 0));
        edge.refused("more than all", -2, x -> x.sure(0, 15, 7));
        edge.refused("less than none", -2, x -> x.sure(0, -1, 0));
        edge.refused("so, but not known", -2, x -> x.sure(0, 3, 7));
        edge.refused("so and known", 1, x -> x.sure(0, 3, 3));
        edge.refused("none known: open", -2, x -> x.sure(1, 0, 0));
        edge.refused("so beyond all facts", -2, x -> x.sure(0, 7, 15));
        edge.refused("so below 0", -2, x -> x.sure(0, 7, -1));
        edge.refused("the sign alone", -2, x -> x.sure(0, 7, Integer.MIN_VALUE));
        Edge no = Edge.of(9, "SURE: what it SAYS. HIDDEN: open, no such ones.");
        no.refused("the last law", 3, x -> x.sure(2, 7, 7));
        no.refused("a law behind the last", -2, x -> x.sure(3, 7, 7));
        no.refused("a law ahead of the first", -2, x -> x.sure(-1, 7, 7));
        for (int far : Edge.FAR) {
            no.refused("a law far: " + far, -2, x -> x.sure(far, 7, 7));
            no.refused("known far: " + far, -2, x -> x.sure(0, far, 0));
            no.refused("so far: " + far, -2, x -> x.sure(0, 7, far));
        }
    }

    // ---- promise 10 ----

    private static void matters() {
        Edge edge = Edge.of(10, "MATTERS: a FACT by which, in some CASE, what the LAW SAYS would be otherwise if that FACT alone were");
        CoalForm x = of(9, "1:a&b&c&d&e&f&g&h&i", "1:a&!a|i&!i", "1:a&b&c&d&e&f&g&h&i;1:a&b&c&d&e&f&g&h", "1:i", "1:a;1:!a");
        edge.due("in one case of 512 each", x.matters(0, 0), 511);
        edge.due("in none", x.matters(1, 0), 0);
        edge.due("all but the last", x.matters(2, 0), 255);
        edge.due("the last alone", x.matters(3, 0), 256);
        edge.due("two clauses say one thing", x.matters(4, 0), 0);
        CoalForm two = of(2, "1:a&b;1:!a&!b", "0:a", "1:a;2:!a");
        edge.due("both, though both together would change nothing", two.matters(0, 0), 3);
        edge.due("0 is not nothing", two.matters(1, 0), 1);
        edge.due("from one thing to another", two.matters(2, 0), 1);
    }

    private static void always() {
        Edge edge = Edge.of(10, "ALWAYS: in each CASE.");
        CoalForm x = of(2, "1:a&!b|b&!a", "1:a|b", "1:b", "1:a&!a", "1:a&b;2:a;3:b");
        int[] due = {3, 0, 2, 0, 3};
        for (int law = 0; law < due.length; law++) {
            edge.due("law " + law, x.matters(law, 1), due[law]);
        }
        CoalForm three = of(3, "1:a&!b|b&!a;2:a&b&c", "1:c;2:cu!a");
        edge.due("in all cases but two c does not", three.matters(0, 1), 3);
        edge.due("a second clause that says nothing new", three.matters(1, 1), 4);
        CoalForm but = of(3, "1:(a&!b|b&!a)u!a&b&c");
        edge.due("in all cases but two", but.matters(0, 1), 0);
    }

    private static void mattersOrNone() {
        Edge edge = Edge.of(10, "FACTS that MATTER (0), that do so ALWAYS (1), as bits. NONE: no such ones.");
        edge.refused("what 0", 7, x -> x.matters(0, 0));
        edge.refused("what 1", 0, x -> x.matters(0, 1));
        edge.refused("what 2", -1, x -> x.matters(0, 2));
        edge.refused("what -1", -1, x -> x.matters(0, -1));
        edge.refused("the last law", 7, x -> x.matters(2, 0));
        edge.refused("a law behind the last", -1, x -> x.matters(3, 0));
        edge.refused("a law ahead of the first", -1, x -> x.matters(-1, 0));
        for (int far : Edge.FAR) {
            edge.refused("a law far: " + far, -1, x -> x.matters(far, 0));
            edge.refused("a what far: " + far, -1, x -> x.matters(0, far));
        }
    }

    // ---- promise 11 ----

    private static void proofs() {
        Edge edge = Edge.of(11, "PROOF of a CASE: the fewest FACTS which, as they are in it, make the LAW SURE");
        CoalForm x = of(9, "0:a|!a", "1:i", "1:a&b&c&d&e&f&g&h&i", "1:9#abcdefghi;0:8#abcdefghi;1:7#abcdefghi;"
                + "0:6#abcdefghi;1:5#abcdefghi;0:4#abcdefghi;1:3#abcdefghi;0:2#abcdefghi;1:1#abcdefghi");
        edge.due("none", x.proof(0, 511), 0);
        edge.due("the last alone", x.proof(1, 0), 256);
        edge.due("all nine", x.proof(2, 511), 511);
        edge.due("one of them that is not so", x.proof(2, 255), 256);
        for (int c : new int[] {0, 1, 256, 510, 511}) {
            edge.due("all are needed on " + c, x.proof(3, c), 511);
        }
        Edge no = Edge.of(11, "PROOF, as bits. NONE: no such ones.");
        no.refused("the first law, the first case", 5, y -> y.proof(0, 0));
        no.refused("the last law, the last case", 3, y -> y.proof(2, 7));
        no.refused("a law behind the last", -1, y -> y.proof(3, 7));
        no.refused("a case behind the last", -1, y -> y.proof(2, 8));
        no.refused("a law ahead of the first", -1, y -> y.proof(-1, 7));
        no.refused("a case ahead of the first", -1, y -> y.proof(2, -1));
        for (int far : Edge.FAR) {
            no.refused("a law far: " + far, -1, y -> y.proof(far, 0));
            no.refused("a case far: " + far, -1, y -> y.proof(0, far));
        }
    }

    private static void proofsOfSeveral() {
        Edge edge = Edge.of(11, "(of several sets that with the lower FACT where two first differ)");
        CoalForm x = of(4, "1:a&d|b&c", "1:b&c|a&d", "1:c&d|b", "1:a&c|a&b", "1:b&d|b&c", "1:d|a&b&c");
        int[] due = {9, 9, 2, 3, 6, 8};
        for (int law = 0; law < due.length; law++) {
            edge.due("law " + law, x.proof(law, 15), due[law]);
        }
        edge.due("where none is so", x.proof(0, 0), 3);
        CoalForm nine = of(9, "1:8#abcdefghi", "1:a&i|b&c", "1:h|i");
        edge.due("eight of nine", nine.proof(0, 511), 255);
        edge.due("two of nine", nine.proof(0, 0), 3);
        edge.due("the first and the last", nine.proof(1, 511), 257);
        edge.due("the lower of the last two", nine.proof(2, 511), 128);
        edge.due("the last of them", nine.proof(2, 256), 256);
    }

    // ---- promise 12 ----

    private static void parts() {
        Edge unlike = Edge.of(12, "PARTS of two LAWS: CASES on which they SAY unlike things.");
        CoalForm x = of(3, "1:a", "1:a;0:a", "0:!a&!b&!c;1:a", "2:a|!a", "1:a&!a");
        unlike.due("none", x.parts(0, 1, -1), 0);
        unlike.due("0 is not nothing", x.parts(0, 2, -1), 1);
        unlike.due("the first case", x.parts(2, 0, 0), 0);
        unlike.due("all", x.parts(3, 4, -1), 8);
        unlike.due("a law of itself", x.parts(3, 3, -1), 0);
        Edge edge = Edge.of(12, "how many (i NONE), the i-th CASE. NONE: no such ones.");
        for (int i = -1; i < 10; i++) {
            edge.due("none, " + i, x.parts(0, 1, i), i == -1 ? 0 : -1);
            edge.due("one, " + i, x.parts(0, 2, i), i == -1 ? 1 : i == 0 ? 0 : -1);
            edge.due("all, " + i, x.parts(3, 4, i), i == -1 ? 8 : i < 8 ? i : -1);
        }
        CoalForm nine = of(9, "1:a&!a", "1:a|!a", "1:9#abcdefghi");
        edge.due("all of 512", nine.parts(0, 1, -1), 512);
        edge.due("the last of 512", nine.parts(1, 0, 511), 511);
        edge.due("one behind the last of 512", nine.parts(1, 0, 512), -1);
        edge.due("the last case alone", nine.parts(0, 2, 0), 511);
        edge.due("all but the last case", nine.parts(1, 2, 510), 510);
        edge.due("no more than these", nine.parts(1, 2, 511), -1);
        edge.refused("the first two laws", 6, y -> y.parts(0, 1, -1));
        edge.refused("the last law", 7, y -> y.parts(0, 2, 4));
        edge.refused("one behind the last", -1, y -> y.parts(3, 0, -1));
        edge.refused("other behind the last", -1, y -> y.parts(0, 3, -1));
        edge.refused("one ahead of the first", -1, y -> y.parts(-1, 0, -1));
        edge.refused("other ahead of the first", -1, y -> y.parts(0, -1, -1));
        edge.refused("the last i", 7, y -> y.parts(0, 1, 5));
        edge.refused("i behind the last", -1, y -> y.parts(0, 1, 6));
        edge.refused("i -2", -1, y -> y.parts(0, 1, -2));
        for (int far : Edge.FAR) {
            edge.refused("one far: " + far, -1, y -> y.parts(far, 0, -1));
            edge.refused("other far: " + far, -1, y -> y.parts(0, far, -1));
            edge.refused("i far: " + far, -1, y -> y.parts(0, 1, far));
        }
    }

    // ---- promise 32 ----

    private static void mends() {
        Edge edge = Edge.of(32, "the first has another one, in OUTCOME or in CASES by which it holds (or none): as bits");
        String eleven = TWELVE.substring(0, TWELVE.length() - 4);
        CoalForm x = of(2, TWELVE, eleven, TWELVE.replace("2:b", "3:b"), TWELVE.replace("2:b", "2:bua"),
                "2:" + TWELVE.substring(2), "1:!!aub&!a;" + TWELVE.substring(4));
        int[][] due = {{0, 0, 2048, 2048, 1, 0}, {2048, 0, 2048, 2048, 2049, 2048}, {2048, 0, 0, 2048, 2049, 2048},
            {2048, 0, 2048, 0, 2049, 2048}, {1, 1, 2049, 2049, 0, 1}, {0, 0, 2048, 2048, 1, 0}};
        for (int one = 0; one < 6; one++) {
            for (int other = 0; other < 6; other++) {
                edge.due(one + " changed into " + other, x.mend(one, other), due[one][other]);
            }
        }
        CoalForm y = of(2, "1:a", "2:b;".repeat(11) + "2:b", "1:a&!a;1:a", "1:a;1:a&!a", "1:a;0:a&!a", "1:a|!a&!b");
        edge.due("all twelve", y.mend(0, 1), 4095);
        edge.due("the one", y.mend(1, 0), 1);
        edge.due("none, or one that never holds", y.mend(0, 3), 2);
        edge.due("none, or one of 0 that never holds", y.mend(0, 4), 2);
        edge.due("on the first case alone", y.mend(0, 5), 1);
        edge.due("what stands behind the last does not count", y.mend(3, 0), 0);
        edge.due("not by what is said, but by places", y.mend(3, 2), 3);
        Edge no = Edge.of(32, "MEND, as bits. NONE: no such ones.");
        no.refused("the last law", 1, z -> z.mend(0, 2));
        no.refused("one behind the last", -1, z -> z.mend(3, 0));
        no.refused("other behind the last", -1, z -> z.mend(0, 3));
        no.refused("one ahead of the first", -1, z -> z.mend(-1, 0));
        no.refused("other ahead of the first", -1, z -> z.mend(0, -1));
        for (int far : Edge.FAR) {
            no.refused("one far: " + far, -1, z -> z.mend(far, 0));
            no.refused("other far: " + far, -1, z -> z.mend(0, far));
        }
    }

    // ---- promise 33 ----

    private static void swaps() {
        Edge edge = Edge.of(33, "two CLAUSES one behind the other (i and the next) that could stand the other way round");
        String ten = "1:a&!a;".repeat(10);
        CoalForm x = of(2, ten + "1:a;2:b", "1:a", "1:a;2:b", "1:a;2:!a", "1:a&b;2:a;3:b", "1:a;1:a");
        edge.due("the first two of twelve", x.swap(0, 0), 1);
        edge.due("the last two of twelve", x.swap(0, 10), 0);
        edge.due("the two ahead of these", x.swap(0, 9), 1);
        edge.due("the twelfth has no next", x.swap(0, 11), -1);
        edge.due("one alone has no next", x.swap(1, 0), -1);
        edge.due("they meet", x.swap(2, 0), 0);
        edge.due("they never meet", x.swap(3, 0), 1);
        edge.due("they meet where the first holds", x.swap(4, 1), 1);
        edge.due("the first meets the second there", x.swap(4, 0), 0);
        edge.due("they say the same", x.swap(5, 0), 1);
        CoalForm more = of(2, "1:!a&!b;2:!a&!b", "1:a&!a;1:a;2:b;3:b", "4:!a;1:a&b;2:a&!b", "1:a&b;2:a&b");
        edge.due("they meet on the first case alone", more.swap(0, 0), 0);
        edge.due("they meet on the last case alone", more.swap(3, 0), 0);
        edge.due("the second and the third meet, and others behind", more.swap(1, 1), 0);
        edge.due("the second and the third never meet, and one ahead", more.swap(2, 1), 1);
        edge.due("one ahead of these", more.swap(2, 0), 1);
        Edge no = Edge.of(33, "SWAP (1, 0). NONE: no such ones.");
        no.refused("two clauses", 1, y -> y.swap(0, 0));
        no.refused("i of the last", -1, y -> y.swap(0, 1));
        no.refused("i -1", -1, y -> y.swap(0, -1));
        no.refused("one clause alone", -1, y -> y.swap(2, 0));
        no.refused("a law behind the last", -1, y -> y.swap(3, 0));
        no.refused("a law ahead of the first", -1, y -> y.swap(-1, 0));
        for (int far : Edge.FAR) {
            no.refused("a law far: " + far, -1, y -> y.swap(far, 0));
            no.refused("an i far: " + far, -1, y -> y.swap(0, far));
        }
    }

    // ---- promise 39 ----

    private static void burdens() {
        Edge edge = Edge.of(39, "on how many CASES the LAW would SAY otherwise without it; IDLE: CLAUSES of which that is none");
        CoalForm x = of(2, TWELVE, "0:a|!a", "1:a;1:a&b", "1:a;2:a&b", "1:a&b;1:a", "1:a&b;2:a;2:b");
        for (int k = 0; k < 11; k++) {
            edge.due("one of eleven that are alike, " + k, x.burden(0, k), 0);
        }
        edge.due("the twelfth", x.burden(0, 11), 1);
        edge.due("eleven are idle", x.burden(0, -1), 2047);
        edge.due("all cases", x.burden(1, 0), 4);
        edge.due("0 is not nothing: none is idle", x.burden(1, -1), 0);
        edge.due("another one says the same", x.burden(2, -1), 2);
        edge.due("never the first", x.burden(3, -1), 2);
        edge.due("the next one says the same", x.burden(4, -1), 1);
        edge.due("the next one says otherwise", x.burden(5, 0), 1);
        edge.due("none is idle", x.burden(5, -1), 0);
        CoalForm y = of(1, "1:a&!a;".repeat(11) + "1:a&!a");
        edge.due("all twelve are idle", y.burden(0, -1), 4095);
        Edge no = Edge.of(39, "BURDEN of a CLAUSE; IDLE, as bits (clause NONE). NONE: no such ones.");
        no.refused("the last clause", 2, z -> z.burden(0, 1));
        no.refused("a clause behind the last", -1, z -> z.burden(0, 2));
        no.refused("all clauses", 0, z -> z.burden(0, -1));
        no.refused("a clause ahead of all", -1, z -> z.burden(0, -2));
        no.refused("the last law", 4, z -> z.burden(2, 0));
        no.refused("a law behind the last", -1, z -> z.burden(3, 0));
        no.refused("a law ahead of the first", -1, z -> z.burden(-1, 0));
        for (int far : Edge.FAR) {
            no.refused("a law far: " + far, -1, z -> z.burden(far, 0));
            no.refused("a clause far: " + far, -1, z -> z.burden(0, far));
        }
    }

    // ---- promise 41 ----

    private static void offices() {
        Edge edge = Edge.of(41, "on how many CASES a LAW is READ otherwise so");
        CoalForm x = of(9, "1:a&!i;2:i&!a", "1:a&i;1:a|i", "1:a&!i&b&c&d&e&f&g&h", "1:b&!h", "1:i");
        edge.due("one for the other", x.office(0, 0, 8), 256);
        edge.due("that for it", x.office(0, 8, 0), 256);
        edge.due("as well the other way", x.office(1, 0, 8), 0);
        edge.due("two of 512", x.office(2, 0, 8), 2);
        edge.due("neither matters", x.office(3, 0, 8), 0);
        edge.due("one of them matters", x.office(3, 0, 7), 128);
        edge.due("the last alone matters", x.office(4, 8, 0), 256);
        edge.due("the last alone matters, that for it", x.office(4, 0, 8), 256);
        Edge no = Edge.of(41, "OFFICE. NONE: no such ones, one FACT.");
        no.refused("the first and the last", 4, y -> y.office(0, 0, 2));
        no.refused("one fact, the first", -1, y -> y.office(0, 0, 0));
        no.refused("one fact, the last", -1, y -> y.office(0, 2, 2));
        no.refused("one behind the last", -1, y -> y.office(0, 3, 0));
        no.refused("other behind the last", -1, y -> y.office(0, 0, 3));
        no.refused("one ahead of the first", -1, y -> y.office(0, -1, 0));
        no.refused("other ahead of the first", -1, y -> y.office(0, 0, -1));
        no.refused("the last law", 0, y -> y.office(2, 0, 1));
        no.refused("a law behind the last", -1, y -> y.office(3, 0, 1));
        no.refused("a law ahead of the first", -1, y -> y.office(-1, 0, 1));
        for (int far : Edge.FAR) {
            no.refused("a law far: " + far, -1, y -> y.office(far, 0, 1));
            no.refused("one far: " + far, -1, y -> y.office(0, far, 1));
            no.refused("other far: " + far, -1, y -> y.office(0, 1, far));
        }
        CoalForm one = of(1, "1:a");
        no.due("there is but one fact", one.office(0, 0, 0), -1);
        no.due("there is no second", one.office(0, 0, 1), -1);
    }
}
