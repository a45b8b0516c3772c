/** The constants and the promises, line by line, on examples worked by hand. */
final class WalkPromiseTests {
    private static final String LAW = WalkTermsTests.LAW;
    private static final int[] SAID = WalkTermsTests.SAID;
    private static final String FORM = WalkTermsTests.FORM;
    private static final int NONE = CoalForm.NONE;
    private static final int HIDDEN = CoalForm.HIDDEN;

    private WalkPromiseTests() {
    }

    static void all() {
        constants();
        tape();
        faults();
        texts();
        ofLaws();
        onWhatIsKnown();
        ofForms();
        settings();
        askingOut();
        costs();
        questions();
        wrongAnswers();
        people();
        changes();
        charts();
        rulings();
        given();
        theLast();
        Walk.free("How the state is held inside the object is free, as are the speed of each call, the text of toString "
                + "and the behaviour of equals and hashCode. Use of one object from several threads at once is not "
                + "promised to be safe. Nothing is promised beyond the answers and state changes described above, and "
                + "nothing about an object after its 512th call.");
    }

    /** Two laws, three questions and two forms on three facts; a sort of weight 1. */
    private static CoalForm filled() {
        CoalForm x = new CoalForm(3);
        Check.law(x, LAW);
        Check.law(x, "4:!a");
        Check.question(x, "a");
        Check.question(x, "b&c");
        Check.question(x, "a|b");
        Check.form(x, FORM);
        Check.form(x, "a>1,=4;a>=-,=1");
        x.sort(1);
        return x;
    }

    private static void constants() {
        Walk walk = Walk.on(0, "The constants: `NONE = -1`: None; nothing; refused.");
        walk.due("NONE", NONE, -1);
        walk = Walk.on(0, "Open; not told.");
        walk.due("HIDDEN", HIDDEN, -2);
    }

    private static void tape() {
        Walk walk = Walk.on(1, "So many FACTS (the nearest number that may be).");
        int[][] due = {{Integer.MIN_VALUE, 1}, {-1, 1}, {0, 1}, {1, 1}, {5, 5}, {9, 9}, {10, 9}, {Integer.MAX_VALUE, 9}};
        for (int[] row : due) {
            walk.due("of " + row[0], new CoalForm(row[0]).count(4), row[1]);
        }
        walk = Walk.on(2, "Twenty bytes more come to the TAPE (of each number the highest first; bytes of 0 are left out): "
                + "how many it has. NONE: more than 160.");
        CoalForm x = new CoalForm(1);
        walk.due("a question in three numbers", x.feed(0x21000028, 0, 0x00610000, 0, 0x29), 4);
        walk.due("it is !(a)", x.fault(1), NONE);
        walk.due("none comes", x.feed(0, 0, 0, 0, 0), 4);
        for (int k = 1; k <= 7; k++) {
            walk.due("twenty come", x.feed(-1, 0x80808080, 0x01010101, 0x7f7f7f7f, -2), 4 + 20 * k);
        }
        walk.due("twenty are too many", x.feed(-1, -1, -1, -1, -1), NONE);
        walk.due("seventeen are, too", x.feed(-1, -1, -1, -1, 1), NONE);
        walk.due("sixteen are not", x.feed(-1, -1, -1, -1, 0), 160);
        walk.due("one is", x.feed(0, 0, 0x100, 0, 0), NONE);
        walk = Walk.on(3, "The TAPE has its first n bytes alone. False: n.");
        walk.due("161", x.end(161), false);
        walk.due("-1", x.end(-1), false);
        walk.due("160", x.end(160), true);
        walk.due("4", x.end(4), true);
        walk.due("5, of 4", x.end(5), false);
        walk.due("so many are left", x.count(5), 4);
        walk.due("they are the first", x.fault(1), NONE);
        walk.due("1", x.end(1), true);
        walk.due("that is !", x.fault(1), 1);
        walk.due("0", x.end(0), true);
        walk.due("none is left", x.count(5), 0);
    }

    private static void faults() {
        Walk walk = Walk.on(4, "The FAULT of the TAPE as a LAW (0), a QUESTION (1), a FORM (2). NONE: none. -2: no such "
                + "sort.");
        String[] texts = {LAW, "a|b", FORM, "a", "1#ab"};
        int[][] due = {{NONE, 1, 0}, {0, NONE, 1}, {0, 1, NONE}, {0, NONE, 1}, {1, NONE, 0}};
        CoalForm x = new CoalForm(3);
        for (int k = 0; k < texts.length; k++) {
            Check.put(x, texts[k]);
            for (int sort = 0; sort < 3; sort++) {
                walk.due(texts[k] + " as " + sort, x.fault(sort), due[k][sort]);
            }
            walk.due("no sort -1", x.fault(-1), HIDDEN);
            walk.due("no sort 3", x.fault(3), HIDDEN);
            walk.due("the tape stays", x.count(5), texts[k].length());
        }
    }

    private static void texts() {
        Walk walk = Walk.on(5, "The TAPE (empty then; if refused it stays) is one of these: its number. NONE: a FAULT, no "
                + "such sort, there are so many.");
        String[] texts = {LAW, "a|b", FORM};
        int[] most = {6, 10, 6};
        CoalForm x = new CoalForm(3);
        for (int sort = 0; sort < 3; sort++) {
            for (int number = 0; number < most[sort]; number++) {
                Check.put(x, texts[sort]);
                walk.due("no sort 3", x.text(3), NONE);
                walk.due("a fault", x.text((sort + 1) % 3), NONE);
                walk.due("it stays", x.count(5), texts[sort].length());
                walk.due("its number", x.text(sort), number);
                walk.due("empty then", x.count(5), 0);
            }
            walk.due("there are so many", Check.add(x, sort, texts[sort]), NONE);
            walk.due("it stays then, too", x.count(5), texts[sort].length());
        }
    }

    private static void ofLaws() {
        CoalForm x = filled();
        Walk walk = Walk.on(6, "What a LAW SAYS on a CASE. NoSuchElementException: no such ones.");
        for (int c = 0; c < 8; c++) {
            walk.due("on " + c, Edge.says(x, 0, c), SAID[c]);
        }
        walk.due("no case", Edge.says(x, 0, 8), Edge.THROWN);
        walk.due("no law", Edge.says(x, 2, 0), Edge.THROWN);
        walk = Walk.on(7, "Which of its CLAUSES hold on a CASE, as bits. NONE: no such ones.");
        int[] clauses = {4, 1, 4, 0, 4, 1, 6, 2};
        for (int c = 0; c < 8; c++) {
            walk.due("on " + c, x.clauses(0, c), clauses[c]);
        }
        walk.due("no case", x.clauses(0, -1), NONE);
        walk.due("no law", x.clauses(-1, 0), NONE);
        walk = Walk.on(8, "CASES that CLASH (what 0), that are OPEN (1): how many (i NONE), the i-th. NONE: no such ones.");
        walk.due("clash", x.gap(0, 0, NONE), 1);
        walk.due("open", x.gap(1, 1, NONE), 4);
        for (int i = 0; i < 4; i++) {
            walk.due("open, " + i, x.gap(1, 1, i), 2 * i + 1);
        }
        walk.due("no fifth", x.gap(1, 1, 4), NONE);
        walk.due("none at -2", x.gap(1, 1, -2), NONE);
        walk.due("no what", x.gap(1, 2, NONE), NONE);
        walk.due("no law", x.gap(2, 1, NONE), NONE);
    }

    private static void onWhatIsKnown() {
        CoalForm x = filled();
        Walk walk = Walk.on(9, "SURE: what it SAYS. HIDDEN: open, no such ones.");
        walk.due("a is not so", x.sure(1, 1, 0), 4);
        walk.due("a is so: nothing", x.sure(1, 1, 1), NONE);
        walk.due("open", x.sure(1, 6, 6), HIDDEN);
        walk.due("no such facts", x.sure(1, 8, 0), HIDDEN);
        walk.due("not among those known", x.sure(1, 1, 2), HIDDEN);
        walk.due("no law", x.sure(2, 0, 0), HIDDEN);
        walk = Walk.on(10, "FACTS that MATTER (0), that do so ALWAYS (1), as bits. NONE: no such ones.");
        walk.due("ever", x.matters(0, 0), 7);
        walk.due("always", x.matters(1, 1), 1);
        walk.due("no what", x.matters(0, 2), NONE);
        walk.due("no law", x.matters(2, 0), NONE);
        walk = Walk.on(11, "PROOF, as bits. NONE: no such ones.");
        walk.due("a and c", x.proof(0, 2), 5);
        walk.due("a", x.proof(1, 2), 1);
        walk.due("no case", x.proof(0, 8), NONE);
        walk.due("no law", x.proof(-1, 0), NONE);
        walk = Walk.on(12, "PARTS: how many (i NONE), the i-th CASE. NONE: no such ones.");
        walk.due("so many", x.parts(1, 0, NONE), 4);
        walk.due("the last", x.parts(1, 0, 3), 7);
        walk.due("behind the last", x.parts(1, 0, 4), NONE);
        walk.due("none of itself", x.parts(1, 1, NONE), 0);
        walk.due("no law", x.parts(1, 2, NONE), NONE);
    }

    private static void ofForms() {
        CoalForm x = filled();
        Walk walk = Walk.on(13, "What a FORM SAYS on a CASE. NoSuchElementException: no such ones.");
        for (int c = 0; c < 8; c++) {
            walk.due("on " + c, Edge.leads(x, 0, c), SAID[c]);
        }
        walk.due("no case", Edge.leads(x, 0, -1), Edge.THROWN);
        walk.due("no form", Edge.leads(x, 2, 0), Edge.THROWN);
        walk = Walk.on(14, "CASES on which a FORM SAYS otherwise than a LAW: how many (i NONE), the i-th. NONE: no such "
                + "ones.");
        walk.due("none", x.apart(0, 0, NONE), 0);
        walk.due("four", x.apart(0, 1, NONE), 4);
        walk.due("the second", x.apart(0, 1, 1), 5);
        walk.due("behind the last", x.apart(0, 1, 4), NONE);
        walk.due("no form", x.apart(2, 1, NONE), NONE);
        walk.due("no law", x.apart(1, 2, NONE), NONE);
        walk = Walk.on(15, "The lowest CASE on which two FORMS SAY unlike things. NONE: none, no such ones.");
        walk.due("a alone", x.unlike(0, 1), 1);
        walk.due("none", x.unlike(1, 1), NONE);
        walk.due("no form", x.unlike(0, 2), NONE);
        walk = Walk.on(16, "SPOILED, as bits. NONE: no such ones.");
        walk.due("none", x.spoiled(1, 1), 0);
        walk.due("both nodes", x.spoiled(1, 0), 3);
        walk.due("no law", x.spoiled(1, 2), NONE);
        walk.due("no form", x.spoiled(-1, 0), NONE);
        walk = Walk.on(17, "UNUSED, as bits. NONE: no such FORM.");
        walk.due("none", x.unused(1), 0);
        walk.due("the second", x.unused(Check.form(x, "c>2,2;a>=1,=2;b>=1,=2")), 2);
        walk.due("no form", x.unused(3), NONE);
    }

    private static void settings() {
        CoalForm x = filled();
        Walk walk = Walk.on(18, "MINUTES of a FACT (what 0), of a QUESTION (1), whether a FACT is BARRED (2; 0, 1), answered "
                + "WRONG (3). False: no such ones, out of bounds.");
        int[][] due = {{0, 2, 99, 1}, {0, 2, 100, 0}, {0, 3, 1, 0}, {1, 2, 99, 1}, {1, 2, 0, 0}, {1, 3, 1, 0}, {2, 0, 1, 1},
            {2, 0, 2, 0}, {2, 0, -1, 0}, {2, 3, 1, 0}, {2, 0, 0, 1}, {3, 1, 10, 1}, {3, 1, 11, 0}, {3, -1, 1, 0},
            {4, 0, 1, 0}, {-1, 0, 1, 0}};
        for (int[] row : due) {
            walk.due("set(" + row[0] + ", " + row[1] + ", " + row[2] + ")", x.set(row[0], row[1], row[2]), row[3] == 1);
        }
        walk.due("minutes of c", x.worst(0, NONE, 3, 3), 99);
        walk.due("b is always wrong", x.off(0, 0, 0), 0);
        walk.due("b is always wrong, of a", x.off(0, 0, 1), 1000000000000L);
        walk = Walk.on(19, "A SORT: its number. NONE: out of bounds, there are four.");
        int[][] weights = {{0, NONE}, {10, NONE}, {9, 1}, {1, 2}, {5, 3}, {5, NONE}};
        for (int[] row : weights) {
            walk.due("of " + row[0], x.sort(row[0]), row[1]);
        }
        walk = Walk.on(20, "A CHANCE. False: no such ones, out of bounds.");
        int[][] chances = {{0, 0, 10, 1}, {3, 2, 0, 1}, {4, 0, 1, 0}, {-1, 0, 1, 0}, {0, 3, 1, 0}, {0, 0, 11, 0}, {0, 0, -1, 0}};
        for (int[] row : chances) {
            walk.due("chance(" + row[0] + ", " + row[1] + ", " + row[2] + ")", x.chance(row[0], row[1], row[2]), row[3] == 1);
        }
        walk = Walk.on(21, "SHARE. NONE: no such ones.");
        walk.due("nothing is known", x.share(0, 0), 16000);
        walk.due("a is so", x.share(1, 1), 1000 + 9 * 500 + 500 + 5 * 500);
        walk.due("c is so", x.share(4, 4), 500 + 9 * 500 + 500);
        walk.due("no such facts", x.share(8, 0), NONE);
        walk.due("not among those known", x.share(4, 5), NONE);
    }

    private static void askingOut() {
        CoalForm x = filled();
        Walk walk = Walk.on(22, "MEAN for a LAW and another one (NONE: alone). NONE: it can't be asked out, no such ones.");
        walk.due("alone", x.mean(0, NONE, 0, 0), 2250);
        walk.due("another alone", x.mean(1, NONE, 0, 0), 1000);
        walk.due("both: a and b always, c if b is so", x.mean(0, 1, 0, 0), 1000 + 1000 + 500);
        walk.due("a and b are known", x.mean(0, 1, 3, 3), 250);
        walk.due("no other law", x.mean(0, 2, 0, 0), NONE);
        walk.due("no other law -2", x.mean(0, -2, 0, 0), NONE);
        walk.due("no law", x.mean(2, NONE, 0, 0), NONE);
        walk.due("not among those known", x.mean(0, NONE, 3, 4), NONE);
        x.set(2, 0, 1);
        walk.due("without a", x.mean(0, NONE, 0, 0), NONE);
        walk.due("without a, it is known", x.mean(1, NONE, 1, 0), 0);
        x.set(2, 0, 0);
        walk = Walk.on(23, "WORST likewise.");
        walk.due("alone", x.worst(0, NONE, 0, 0), 3);
        walk.due("another alone", x.worst(1, NONE, 0, 0), 1);
        walk.due("both", x.worst(0, 1, 0, 0), 3);
        walk.due("a and b are known", x.worst(0, 1, 3, 3), 1);
        walk.due("no other law", x.worst(0, 2, 0, 0), NONE);
        walk.due("no law", x.worst(-1, NONE, 0, 0), NONE);
        walk.due("no such facts", x.worst(0, NONE, -1, 0), NONE);
        x.set(2, 2, 1);
        walk.due("without c", x.worst(0, NONE, 0, 0), NONE);
        walk.due("without c, b is known", x.worst(0, NONE, 2, 0), 1);
        x.set(2, 2, 0);
        walk = Walk.on(24, "BEST to ask next by MEAN (0), by WORST (1). NONE: it is SURE, it can't be asked out, no such ones.");
        walk.due("by mean", x.best(0, NONE, 0, 0, 0), 1);
        walk.due("by worst", x.best(0, NONE, 0, 0, 1), 0);
        walk.due("both, by mean", x.best(0, 1, 0, 0, 0), 0);
        walk.due("sure", x.best(0, NONE, 3, 1, 0), NONE);
        walk.due("one is sure, not the other", x.best(0, 1, 6, 6, 0), 0);
        walk.due("no what", x.best(0, NONE, 0, 0, 2), NONE);
        walk.due("no law", x.best(2, NONE, 0, 0, 0), NONE);
        x.set(2, 1, 1);
        walk.due("without b", x.best(0, NONE, 0, 0, 0), NONE);
        walk.due("without b, it is known", x.best(0, NONE, 2, 0, 0), 0);
    }

    private static void costs() {
        CoalForm x = filled();
        x.set(0, 1, 4);
        Walk walk = Walk.on(25, "COST of a FORM: MEAN. NONE: no such one.");
        walk.due("a; b and c; c and b", x.cost(0), 1000 + 4 * 500 + 250 + 500 + 4 * 250);
        walk.due("a and a again", x.cost(1), 1000 + 500);
        walk.due("no form", x.cost(2), NONE);
        walk = Walk.on(26, "COST of a FORM: WORST. NONE: no such one.");
        walk.due("a, b and c", x.longest(0), 6);
        walk.due("a and a again", x.longest(1), 2);
        walk.due("no form", x.longest(-1), NONE);
    }

    private static void questions() {
        CoalForm x = filled();
        Walk walk = Walk.on(27, "PAGE, as bits. NONE: no set does, no such LAW.");
        walk.due("c is not told with a and b", x.page(0), NONE);
        walk.due("a", x.page(1), 1);
        walk.due("no law", x.page(2), NONE);
        Check.question(x, "b");
        walk.due("a, b&c and b", x.page(0), 11);
        walk = Walk.on(28, "TELLS. NONE: no such ones.");
        walk.due("a", x.tells(0, 1), 16);
        walk.due("b&c: one and one of 4, three and three", x.tells(1, 1), 6);
        walk.due("no question", x.tells(4, 1), NONE);
        walk.due("no law", x.tells(0, 2), NONE);
    }

    private static void wrongAnswers() {
        CoalForm x = filled();
        Walk walk = Walk.on(29, "OFF. NONE: no such ones.");
        x.set(3, 0, 2);
        walk.due("wrong once: 8 of ten, then 8 of ten are right", x.off(1, 1, 1), 360000000000L);
        walk.due("not wrong first, or wrong and not then", x.off(1, 1, 0), 200000000000L);
        walk.due("no form", x.off(2, 1, 0), NONE);
        walk.due("no law", x.off(1, 2, 0), NONE);
        walk.due("no case", x.off(1, 1, 8), NONE);
        walk = Walk.on(30, "WEAK: the FACT. NONE: no such ones.");
        walk.due("a", x.weak(1, 1), 0);
        x.set(3, 0, 0);
        x.set(3, 1, 1);
        walk.due("b", x.weak(0, 0), 1);
        walk.due("of several the lowest", x.weak(1, 1), 0);
        walk.due("no form", x.weak(2, 0), NONE);
        walk.due("no law", x.weak(0, 2), NONE);
    }

    private static void people() {
        Walk walk = Walk.on(31, "One of the PEOPLE: the CASE (what 0), the SORT (1). NONE: no SORTS, no such what.");
        CoalForm x = new CoalForm(3);
        walk.due("no sorts", x.person(1, 0), NONE);
        walk.due("no sorts, the sort", x.person(1, 1), NONE);
        x.sort(1);
        for (int f = 0; f < 3; f++) {
            x.chance(0, f, f == 1 ? 0 : 10);
        }
        for (long seed = -9; seed < 9; seed++) {
            walk.due("a and c by " + seed, x.person(seed, 0), 5);
            walk.due("the one sort by " + seed, x.person(seed, 1), 0);
        }
        walk.due("no what", x.person(1, 2), NONE);
        walk.due("no what -1", x.person(1, -1), NONE);
    }

    private static void changes() {
        CoalForm x = filled();
        Walk walk = Walk.on(32, "MEND, as bits. NONE: no such ones.");
        walk.due("three by one", x.mend(0, 1), 1);
        walk.due("one by three", x.mend(1, 0), 7);
        walk.due("no law", x.mend(0, 2), NONE);
        walk.due("no law first", x.mend(2, 0), NONE);
        walk = Walk.on(33, "SWAP (1, 0). NONE: no such ones.");
        walk.due("never both", x.swap(0, 0), 1);
        walk.due("both on b and c without a", x.swap(0, 1), 0);
        walk.due("none is next", x.swap(0, 2), NONE);
        walk.due("-1", x.swap(0, -1), NONE);
        walk.due("no law", x.swap(2, 0), NONE);
    }

    private static void charts() {
        CoalForm x = filled();
        Walk walk = Walk.on(34, "CHART: SIZE (what 0), WIDTH (1). NONE: no such ones, no ORDER.");
        walk.due("a, b, c: 1, 2, 2", x.chart(0, 5, 0), 5);
        walk.due("b, a, c: 1, 2, 2", x.chart(0, 11, 0), 5);
        walk.due("c, b, a: 1, 2, 2", x.chart(0, 21, 0), 5);
        walk.due("the widest of 1, 2, 2", x.chart(0, 5, 1), 2);
        walk.due("no what", x.chart(0, 5, 2), NONE);
        walk.due("no order", x.chart(0, 6, 0), NONE);
        walk.due("no law", x.chart(2, 5, 0), NONE);
        walk = Walk.on(35, "LEAST: the SIZE (0), the ORDER (1). NONE: no such ones.");
        walk.due("b, c, a: 1, 1, 2", x.least(0, 0), 4);
        walk.due("it is the only one", x.least(0, 1), 15);
        walk.due("a alone", x.least(1, 0), 1);
        walk.due("the lowest", x.least(1, 1), 5);
        walk.due("no what", x.least(0, 2), NONE);
        walk.due("no law", x.least(2, 0), NONE);
    }

    private static void rulings() {
        CoalForm x = filled();
        Walk walk = Walk.on(36, "A RULING: how many there are. NONE: no such ones (outcome NONE, 0 .. 5), there are 20.");
        walk.due("no case", x.ruling(8, 1), NONE);
        walk.due("no outcome", x.ruling(0, 6), NONE);
        walk.due("no outcome -2", x.ruling(0, -2), NONE);
        walk.due("4 on b and c", x.ruling(6, 4), 1);
        walk.due("nothing on b and c and a", x.ruling(7, NONE), 2);
        walk.due("2 on a", x.ruling(1, 2), 3);
        walk = Walk.on(37, "AGAINST, as bits. NONE: no such LAW.");
        walk.due("the first two", x.against(0), 3);
        walk.due("the last", x.against(1), 4);
        walk.due("no law", x.against(2), NONE);
        walk = Walk.on(38, "CURE, as bits. NONE: no set does, no such LAW.");
        walk.due("without b and c", x.cure(0), 2);
        walk.due("it never says 2", x.cure(1), NONE);
        walk.due("no law", x.cure(2), NONE);
        walk = Walk.on(39, "BURDEN of a CLAUSE; IDLE, as bits (clause NONE). NONE: no such ones.");
        walk.due("the first", x.burden(0, 0), 2);
        walk.due("the last", x.burden(0, 2), 3);
        walk.due("none is idle", x.burden(0, NONE), 0);
        walk.due("no clause", x.burden(0, 3), NONE);
        walk.due("no clause -2", x.burden(0, -2), NONE);
        walk.due("no law", x.burden(2, 0), NONE);
        walk.due("the second is idle", x.burden(Check.law(x, "3:a;5:a&b"), NONE), 2);
    }

    private static void given() {
        CoalForm x = filled();
        Walk walk = Walk.on(40, "GIVEN: what it SAYS (what 0; HIDDEN: open, no such CASE), how many CASES (1), ASK (2; NONE: "
                + "none, told). HIDDEN: no such ones.");
        walk.due("b and c", x.given(0, 2, 2, 0), 3);
        walk.due("nothing", x.given(1, 1, 1, 0), NONE);
        walk.due("open", x.given(0, 1, 1, 0), HIDDEN);
        walk.due("no such case", x.given(0, 5, 1, 0), HIDDEN);
        walk.due("no such case, how many", x.given(0, 5, 1, 1), 0);
        walk.due("all cases", x.given(0, 0, 0, 1), 8);
        walk.due("ask a", x.given(0, 0, 0, 2), 0);
        walk.due("told", x.given(1, 1, 1, 2), NONE);
        walk.due("none is left", x.given(0, 7, 5, 2), NONE);
        for (int what = 0; what < 3; what++) {
            walk.due("no question", x.given(0, 8, 0, what), HIDDEN);
            walk.due("not among them", x.given(0, 1, 3, what), HIDDEN);
            walk.due("no law", x.given(2, 0, 0, what), HIDDEN);
        }
        walk.due("no what", x.given(0, 0, 0, 3), HIDDEN);
        walk.due("no what -1", x.given(0, 0, 0, -1), HIDDEN);
    }

    private static void theLast() {
        CoalForm x = filled();
        Walk walk = Walk.on(41, "OFFICE. NONE: no such ones, one FACT.");
        walk.due("b and c", x.office(0, 2, 1), 2);
        walk.due("one", x.office(0, 1, 1), NONE);
        walk.due("no fact", x.office(0, 0, 3), NONE);
        walk.due("no fact -1", x.office(0, -1, 0), NONE);
        walk.due("no law", x.office(2, 0, 1), NONE);
        walk = Walk.on(42, "LIKELY by all SORTS (sort NONE), by one. NONE: no such ones.");
        x.sort(2);
        walk.due("three cases, both sorts", x.likely(0, 4, NONE), 3 * 3 * 125);
        walk.due("three cases, the second sort", x.likely(0, 4, 1), 3 * 2 * 125);
        walk.due("nothing, the first sort", x.likely(0, NONE, 0), 125);
        walk.due("never", x.likely(0, 5, NONE), 0);
        walk.due("no outcome", x.likely(0, 6, NONE), NONE);
        walk.due("no sort", x.likely(0, 4, 2), NONE);
        walk.due("no law", x.likely(2, 4, NONE), NONE);
        walk = Walk.on(43, "STRAIGHT: MINUTES (cases NONE), how many FACTS are asked on a CASE. NONE: no such ones, no ORDER.");
        x.set(0, 2, 7);
        walk.due("all three", x.straight(0, 5, NONE), 9);
        walk.due("a and b", x.straight(0, 5, 0), 2);
        walk.due("a alone", x.straight(1, 21, 7), 1);
        walk.due("no case", x.straight(0, 5, 8), NONE);
        walk.due("no case -2", x.straight(0, 5, -2), NONE);
        walk.due("no order", x.straight(0, 27, 0), NONE);
        walk.due("no law", x.straight(2, 5, NONE), NONE);
        walk = Walk.on(44, "0 LAWS, 1 QUESTIONS, 2 FORMS, 3 SORTS, 4 FACTS, 5 bytes of the TAPE, 6 RULINGS. NONE for others.");
        x.ruling(0, 0);
        Check.put(x, "abcd");
        int[] due = {2, 3, 2, 2, 3, 4, 1};
        for (int what = 0; what < 7; what++) {
            walk.due("" + what, x.count(what), due[what]);
        }
        walk.due("-1", x.count(-1), NONE);
        walk.due("7", x.count(7), NONE);
    }
}
