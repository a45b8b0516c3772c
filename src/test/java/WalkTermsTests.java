import java.math.BigInteger;

/** The terms, sentence by sentence, on examples worked by hand. */
final class WalkTermsTests {
    /** Says 4, 2, 4, nothing, 4, 2, 3, 3 on the cases of three facts. */
    static final String LAW = "2:aub;3:b&c;4:!a";
    static final int[] SAID = {4, 2, 4, -1, 4, 2, 3, 3};
    /** Asks a, then b and c, or c and b: it is LAW. */
    static final String FORM = "a>1,3;b>2,=2;c>=3,=-;c>4,=4;b>=3,=4";
    private static final String MOST = "1:2#abc";
    private static final int NONE = CoalForm.NONE;
    private static final int HIDDEN = CoalForm.HIDDEN;

    private WalkTermsTests() {
    }

    static void all() {
        Walk.free("Fewest questions on the form: laws told as texts of clauses with unless, on facts that are so or "
                + "not; what a law says on cases and on what is known so far, facts that can never matter and that "
                + "always do, cases on which it says nothing or two things; forms told as texts, whether they are the "
                + "law, the least case on which two part; the form with the fewest minutes in the mean and in the "
                + "worst case, worked out exactly, for one law or for two, behind what another paper tells, without "
                + "what people can't answer; all on one page by plainer questions; answers that may be wrong; what a "
                + "changed clause spoils; people by a seed.");
        calls();
        facts();
        cases();
        lawTexts();
        conditions();
        questionTexts();
        formTexts();
        targets();
        blanks();
        faults();
        says();
        clashes();
        known();
        sure();
        matters();
        proofs();
        parts();
        formSays();
        spoiled();
        unused();
        settings();
        sorts();
        shares();
        askedOut();
        means();
        best();
        notAskedOut();
        costs();
        page();
        tells();
        wrong();
        off();
        weak();
        draws();
        people();
        mends();
        swaps();
        charts();
        orders();
        least();
        width();
        rulings();
        cures();
        burdens();
        given();
        ask();
        offices();
        likely();
        straight();
        refused();
    }

    private static CoalForm of(int facts, String... laws) {
        CoalForm x = new CoalForm(facts);
        for (String law : laws) {
            Check.due("walk: a law is taken: " + law, Check.law(x, law) >= 0, true);
        }
        return x;
    }

    private static CoalForm questions(CoalForm x, String... questions) {
        for (String question : questions) {
            Check.due("walk: a question is taken: " + question, Check.question(x, question) >= 0, true);
        }
        return x;
    }

    private static void calls() {
        Walk walk = Walk.on(0, "An object is used for at most 512 calls after it has been made; what later calls answer "
                + "is free.");
        CoalForm x = of(3, LAW);
        for (int call = 4; call <= 512; call++) {
            walk.due("call " + call, x.says(0, call % 8), SAID[call % 8]);
        }
    }

    // ---- 1 ----

    private static void facts() {
        Walk walk = Walk.on(1, "FACTS have letters a .. (so many as the constructor says, 1 .. 9).");
        for (int n = 1; n <= 9; n++) {
            String lastLetter = "" + "abcdefghi".charAt(n - 1);
            String next = "" + "abcdefghij".charAt(n);
            walk.due("so many", new CoalForm(n).count(4), n);
            walk.fault(n, 1, lastLetter, NONE);
            walk.fault(n, 1, next, 0);
            walk.fault(n, 0, "1:a&" + next, 4);
            walk.fault(n, 2, next + ">=1,=2", 0);
        }
    }

    private static void cases() {
        Walk walk = Walk.on(6, "A CASE is told as bits: bit 0 is a, and so on.");
        for (int fact = 0; fact < 9; fact++) {
            CoalForm x = of(9, "1:" + "abcdefghi".charAt(fact));
            walk.due("this one alone", x.says(0, 1 << fact), 1);
            walk.due("all but this one", x.says(0, 511 ^ 1 << fact), NONE);
        }
    }

    private static void lawTexts() {
        Walk walk = Walk.on(5, "LAWS (6 at most) are TEXTS: CLAUSES with ; between (12 at most): an OUTCOME (one digit "
                + "0 .. 5), : , a CONDITION, perhaps u and a CONDITION (UNLESS).");
        CoalForm x = of(3, LAW, LAW, LAW, LAW, LAW, LAW);
        walk.due("a seventh", Check.law(x, LAW), NONE);
        walk.fault(3, 0, "1:a;".repeat(11) + "1:a", NONE);
        walk.fault(3, 0, "1:a;".repeat(12) + "1:a", 47);
        for (int outcome = 0; outcome < 10; outcome++) {
            walk.fault(3, 0, outcome + ":a", outcome < 6 ? NONE : 0);
        }
        walk.fault(3, 0, "11:a", 1);
        walk.fault(3, 0, "1a", 1);
        walk.fault(3, 0, "1:aubuc", 5);
        walk.said(2, "0:a", NONE, 0, NONE, 0);
        walk.said(2, "5:aub", NONE, 5, NONE, NONE);
        walk.said(2, "5:a|bua&b;1:a", NONE, 5, 5, 1);
    }

    private static void conditions() {
        Walk walk = Walk.on(6, "CONDITION: PARTS with | between; PART: UNITS with & between; UNIT: ! UNIT, "
                + "( CONDITION ), a FACT's letter, or a digit 1 .. 9, # and FACTS' letters (one at least, none twice: so "
                + "many of these at least).");
        walk.so(3, "a|b&c", 234);
        walk.so(3, "(a|b)&c", 224);
        walk.so(3, "a&b|b&c", 200);
        walk.so(3, "!a&b", 68);
        walk.so(3, "!a|b", 221);
        walk.so(3, "!(a|b)", 17);
        walk.so(3, "!!a", 170);
        walk.so(3, "1#ca", 250);
        walk.so(3, "2#abc", 232);
        walk.so(3, "3#cba", 128);
        walk.so(3, "4#abc", 0);
        walk.so(3, "9#a", 0);
        walk.so(3, "!2#ab", 119);
        walk.so(3, "!2#ab&c|a", 119 & 240 | 170);
        walk.fault(3, 1, "0#a", 0);
        walk.fault(3, 1, "1#", 2);
        walk.fault(3, 1, "1#&", 2);
        walk.fault(3, 1, "1#aba", 4);
        walk.fault(3, 1, "1#ad", 3);
        walk.fault(3, 1, "()", 1);
        walk.fault(3, 1, "a!b", 1);
    }

    private static void questionTexts() {
        Walk walk = Walk.on(5, "QUESTIONS (10 at most) are CONDITIONS.");
        CoalForm x = new CoalForm(3);
        for (int k = 0; k < 10; k++) {
            walk.due("the number", Check.question(x, "a|b&!c"), k);
        }
        walk.due("an eleventh", Check.question(x, "a"), NONE);
        walk.fault(3, 1, "1:a", 1);
        walk.fault(3, 1, "aub", 1);
        walk.fault(3, 1, "a;b", 1);
    }

    private static void formTexts() {
        Walk walk = Walk.on(5, "FORMS (6 at most) are TEXTS: NODES with ; between (12 at most, numbered 0 ..): a FACT's "
                + "letter, > , a TARGET (if it is so), a comma, a TARGET (if not).");
        walk.leads(3, "a>1,2;b>=1,=-;c>=2,=0", 0, -1, 0, 1, 2, -1, 2, 1);
        String twelve = "a>1,=0;a>2,=0;a>3,=0;a>4,=0;a>5,=0;a>6,=0;a>7,=0;a>8,=0;a>9,=0;a>10,=0;a>11,=0;a>=5,=0";
        walk.leads(1, twelve, 0, 5);
        walk.fault(1, 2, twelve + ";a>=1,=2", twelve.length());
        CoalForm x = new CoalForm(1);
        for (int k = 0; k < 6; k++) {
            walk.due("the number", Check.form(x, twelve), k);
        }
        walk.due("a seventh", Check.form(x, "a>=1,=2"), NONE);
        walk.fault(3, 2, "a=1,=2", 1);
        walk.fault(3, 2, "a>=1;=2", 4);
        walk.fault(3, 2, "a>=1", 4);
    }

    private static void targets() {
        Walk walk = Walk.on(5, "TARGET: = and an OUTCOME or - (nothing), or the number of a later NODE (one or two "
                + "digits, higher than its own, 11 at most).");
        walk.leads(1, "a>=0,=5", 5, 0);
        walk.leads(1, "a>=-,=1", 1, NONE);
        walk.fault(1, 2, "a>=6,=1", 3);
        walk.fault(1, 2, "a>=12,=1", 4);
        walk.leads(1, "a>1,=1;a>=2,=3", 1, 2);
        walk.leads(1, "a>01,=1;a>=2,=3", 1, 2);
        walk.fault(1, 2, "a>0,=1", 2);
        walk.fault(1, 2, "a>=1,=2;a>1,=1", 10);
        walk.fault(1, 2, "a>=1,=2;a>0,=1", 10);
        walk.fault(1, 2, "a>=1,2;a>=1,2;a>=1,=2", NONE);
        walk.fault(1, 2, "a>=1,2;a>=1,2;a>=1,2", 19);
        walk.fault(1, 2, "a>12,=1", 3);
        walk.fault(1, 2, "a>-,=1", 2);
    }

    private static void blanks() {
        Walk walk = Walk.on(4, "Blanks (32) may stand between all these, not within numbers, nor between a digit and #; "
                + "at most six of ( ! within one another.");
        walk.said(2, " 1 :  a & ! b u ( b ) ; 2 : 1# a b ", NONE, 1, 2, 2);
        walk.leads(1, " a > 1 , = 1 ; a > = 2 , = - ", 1, 2);
        walk.fault(1, 2, "a>1 1,=1", 4);
        walk.fault(1, 1, "1 #a", 1);
        walk.fault(1, 1, "1# a", NONE);
        walk.fault(1, 0, "1\t:a", 1);
        walk.fault(1, 1, "!!!!!!a", NONE);
        walk.fault(1, 1, "!!!!!!!a", 6);
        walk.fault(1, 1, "((((((a))))))", NONE);
        walk.fault(1, 1, "((((((((a", 6);
        walk.fault(1, 1, "(!(!(!a)))", NONE);
        walk.fault(1, 1, "(!(!(!!a)))", 6);
        walk.fault(1, 1, "!a&!a&!a&!a|!a&!(a)&!a&!a", NONE);
        walk.fault(1, 0, "1:!!!!!!au((((((a))))))", NONE);
        walk.fault(1, 0, "1:!!!!!!au(((((((a)))))))", 16);
    }

    private static void faults() {
        Walk walk = Walk.on(4, "FAULT: the first byte at which no such TEXT can go on (the length, if it ends too early, "
                + "and if a FORM has a number of a NODE that is not there); a thirteenth CLAUSE, NODE is wrong at the ; "
                + "ahead of it, a number that can't be at its last digit (a third digit is wrong itself), a seventh of "
                + "( ! , a letter that is there already at it.");
        for (int sort = 0; sort < 3; sort++) {
            walk.fault(2, sort, "", 0);
            walk.fault(2, sort, "  ", 2);
            walk.fault(2, sort, "x", 0);
        }
        walk.fault(2, 0, "1:a;", 4);
        walk.fault(2, 0, "1:a;;", 4);
        walk.fault(2, 0, "1:a b", 4);
        walk.fault(2, 0, "1:(a;", 4);
        walk.fault(2, 1, "a|", 2);
        walk.fault(2, 2, "a>2,=1;b>=1,=2", 14);
        walk.fault(2, 2, "a>2,=1;b>=1,=2 ", 15);
        walk.fault(2, 2, "a>2,=1;b>=1,x", 12);
        walk.fault(2, 0, "1:a;".repeat(11) + "1:a ;", 48);
        walk.fault(2, 2, "a>00,=1", 3);
        walk.fault(2, 2, "a>19,=1", 3);
        walk.fault(2, 2, "a>99", 3);
        walk.fault(2, 2, "a>001,=1", 4);
        walk.fault(2, 2, "a>111,=1", 4);
        walk.fault(2, 1, "2#aa", 3);
        walk.fault(2, 1, "2#ab b", 5);
    }

    // ---- 2 ----

    private static void says() {
        Walk walk = Walk.on(6, "A LAW SAYS on a CASE the OUTCOME of its first CLAUSE that holds (its CONDITION is so, and "
                + "its UNLESS is not), or nothing (NONE).");
        walk.said(3, LAW, SAID);
        walk.said(3, "4:!a;3:b&c;2:aub", 4, 2, 4, -1, 4, 2, 4, 3);
    }

    private static void clashes() {
        Walk walk = Walk.on(8, "CLASH: two CLAUSES of unlike OUTCOMES hold.");
        CoalForm x = of(3, LAW, "1:a;1:b", "1:a;1:b;2:c");
        walk.due("one", x.gap(0, 0, NONE), 1);
        walk.due("on b and c", x.gap(0, 0, 0), 6);
        walk.due("of like ones none", x.gap(1, 0, NONE), 0);
        walk.due("the third is unlike", x.gap(2, 0, NONE), 3);
        walk = Walk.on(8, "OPEN: it says nothing.");
        walk.due("one", x.gap(0, 1, NONE), 1);
        walk.due("on a and b", x.gap(0, 1, 0), 3);
    }

    private static void known() {
        Walk walk = Walk.on(9, "KNOWN are some FACTS (bits) and which of these are so (bits within).");
        CoalForm x = of(3, LAW);
        walk.due("b and c are so", x.sure(0, 6, 6), 3);
        walk.due("c is not among those known", x.sure(0, 3, 4), HIDDEN);
        walk.due("share: a is not among those known", x.share(6, 1), NONE);
        walk.due("worst: b is not among those known", x.worst(0, NONE, 5, 2), NONE);
    }

    private static void sure() {
        Walk walk = Walk.on(9, "SURE: what the LAW SAYS on all CASES that agree with that, if it is one thing (nothing is "
                + "one, too).");
        CoalForm x = of(3, LAW);
        walk.due("a without b", x.sure(0, 3, 1), 2);
        walk.due("neither a nor b", x.sure(0, 3, 0), 4);
        walk.due("neither a nor c", x.sure(0, 5, 0), 4);
        walk.due("a and b without c", x.sure(0, 7, 3), NONE);
        walk.due("a and b", x.sure(0, 3, 3), HIDDEN);
        walk.due("a", x.sure(0, 1, 1), HIDDEN);
        walk.due("nothing is known", x.sure(0, 0, 0), HIDDEN);
    }

    private static void matters() {
        Walk walk = Walk.on(10, "MATTERS: a FACT by which, in some CASE, what the LAW SAYS would be otherwise if that FACT "
                + "alone were; ALWAYS: in each CASE.");
        String[] laws = {LAW, "1:a&!b|b&!a", "1:a|!a", "1:a;1:b&c", "2:c"};
        int[] ever = {7, 3, 0, 7, 4};
        int[] always = {0, 3, 0, 0, 4};
        CoalForm x = of(3, laws);
        for (int law = 0; law < laws.length; law++) {
            walk.due("some case of " + laws[law], x.matters(law, 0), ever[law]);
            walk.due("each case of " + laws[law], x.matters(law, 1), always[law]);
        }
    }

    private static void proofs() {
        Walk walk = Walk.on(11, "PROOF of a CASE: the fewest FACTS which, as they are in it, make the LAW SURE (of several "
                + "sets that with the lower FACT where two first differ).");
        CoalForm x = of(3, LAW, MOST, "1:a|!a");
        int[] due = {3, 3, 5, 7, 3, 3, 6, 6};
        int[] most = {3, 6, 5, 3, 3, 5, 6, 3};
        for (int c = 0; c < 8; c++) {
            walk.due(LAW + " on " + c, x.proof(0, c), due[c]);
            walk.due(MOST + " on " + c, x.proof(1, c), most[c]);
            walk.due("sure at once, on " + c, x.proof(2, c), 0);
        }
    }

    private static void parts() {
        Walk walk = Walk.on(12, "PARTS of two LAWS: CASES on which they SAY unlike things.");
        CoalForm x = of(3, LAW, "4:!a");
        int[] due = {1, 5, 6, 7};
        walk.due("so many", x.parts(0, 1, NONE), 4);
        for (int i = 0; i < 4; i++) {
            walk.due("the case " + i, x.parts(0, 1, i), due[i]);
            walk.due("the other way " + i, x.parts(1, 0, i), due[i]);
        }
    }

    private static void formSays() {
        Walk walk = Walk.on(13, "A FORM SAYS on a CASE what its TARGETS lead to from NODE 0.");
        walk.leads(3, FORM, SAID);
        walk.leads(2, "b>=1,=2;a>=3,=4", 2, 2, 1, 1);
        walk = Walk.on(14, "It is the LAW, if they say the same on each CASE.");
        CoalForm x = of(3, LAW, "4:!a");
        Check.form(x, FORM);
        walk.due("it is", x.apart(0, 0, NONE), 0);
        walk.due("it is not", x.apart(0, 1, NONE), 4);
    }

    private static void spoiled() {
        Walk walk = Walk.on(16, "SPOILED by a LAW: NODES with a TARGET = to which some CASE leads on which the LAW SAYS "
                + "otherwise.");
        CoalForm x = of(3, LAW, "4:!a");
        Check.form(x, FORM);
        walk.due("by its own law", x.spoiled(0, 0), 0);
        walk.due("without two clauses", x.spoiled(0, 1), 2 | 4 | 16);
        Check.form(x, "a>=1,=2;b>=1,=2");
        walk.due("none leads to the second", x.spoiled(1, 0), 1);
    }

    private static void unused() {
        Walk walk = Walk.on(17, "UNUSED: NODES to which no CASE leads.");
        CoalForm x = new CoalForm(3);
        Check.form(x, FORM);
        Check.form(x, "a>=1,=2;b>=1,=2");
        Check.form(x, "a>1,=1;a>=2,2;b>=1,=2");
        walk.due("all are used", x.unused(0), 0);
        walk.due("of no target", x.unused(1), 2);
        walk.due("only a so and not so", x.unused(2), 4);
    }

    // ---- 3 ----

    private static void settings() {
        Walk walk = Walk.on(18, "MINUTES of a FACT (1 .. 99; 1 at first).");
        CoalForm x = of(2, "1:b");
        walk.due("at first", x.worst(0, NONE, 0, 0), 1);
        walk.due("0", x.set(0, 1, 0), false);
        walk.due("100", x.set(0, 1, 100), false);
        walk.due("99", x.set(0, 1, 99), true);
        walk.due("so many now", x.worst(0, NONE, 0, 0), 99);
        walk = Walk.on(18, "BARRED are FACTS that can't be asked (none at first).");
        walk.due("bar it", x.set(2, 1, 1), true);
        walk.due("it can't be asked", x.worst(0, NONE, 0, 0), NONE);
        walk.due("bar it no more", x.set(2, 1, 0), true);
        walk.due("it can be asked", x.worst(0, NONE, 0, 0), 99);
    }

    private static CoalForm twoSorts(String... laws) {
        CoalForm x = of(2, laws);
        x.sort(3);
        x.sort(4);
        x.chance(0, 0, 2);
        x.chance(0, 1, 7);
        x.chance(1, 0, 9);
        return x;
    }

    private static void sorts() {
        Walk walk = Walk.on(19, "SORTS of people (4 at most): a weight (1 .. 9), and of each FACT the CHANCE that it is so "
                + "(0 .. 10 of ten; 5 at first).");
        CoalForm x = new CoalForm(1);
        walk.due("0", x.sort(0), NONE);
        walk.due("10", x.sort(10), NONE);
        for (int k = 0; k < 4; k++) {
            walk.due("the number", x.sort(9 - k), k);
        }
        walk.due("a fifth", x.sort(1), NONE);
        walk.due("5 at first", x.share(1, 1), 5 * (9 + 8 + 7 + 6));
        walk.due("-1", x.chance(3, 0, -1), false);
        walk.due("11", x.chance(3, 0, 11), false);
        walk.due("10", x.chance(3, 0, 10), true);
        walk.due("of one sort 10", x.share(1, 1), 5 * (9 + 8 + 7) + 10 * 6);
        walk.due("0", x.chance(3, 0, 0), true);
        walk.due("of one sort 0", x.share(1, 1), 5 * (9 + 8 + 7));
    }

    private static void shares() {
        Walk walk = Walk.on(21, "SHARE of what is KNOWN: over all SORTS together, the weight times, for each KNOWN FACT, "
                + "its CHANCE (10 less that, if it is not so), and 10 for each other one.");
        CoalForm x = twoSorts();
        walk.due("nothing is known", x.share(0, 0), 700);
        walk.due("a is so", x.share(1, 1), 3 * 2 * 10 + 4 * 9 * 10);
        walk.due("a is not", x.share(1, 0), 3 * 8 * 10 + 4 * 1 * 10);
        walk.due("b is so", x.share(2, 2), 3 * 7 * 10 + 4 * 5 * 10);
        walk.due("a without b", x.share(3, 1), 3 * 2 * 3 + 4 * 9 * 5);
        walk.due("b without a", x.share(3, 2), 3 * 8 * 7 + 4 * 1 * 5);
    }

    private static void askedOut() {
        Walk walk = Walk.on(23, "To ask out a LAW (or two together: what both say) from what is KNOWN: as long as it is "
                + "not SURE, one FACT more is asked (no BARRED one).");
        CoalForm x = of(3, LAW, "1:a", "2:b", "1:a|!a");
        walk.due("all three", x.worst(0, NONE, 0, 0), 3);
        walk.due("behind b", x.worst(0, NONE, 2, 2), 2);
        walk.due("behind b and c", x.worst(0, NONE, 6, 6), 0);
        walk.due("one", x.worst(1, NONE, 0, 0), 1);
        walk.due("two together", x.worst(1, 2, 0, 0), 2);
        walk.due("two together, behind a", x.worst(1, 2, 1, 1), 1);
        walk.due("one that is sure and another", x.worst(3, 2, 0, 0), 1);
        x.set(2, 1, 1);
        walk.due("without b", x.worst(0, NONE, 0, 0), NONE);
        walk.due("behind b, without b", x.worst(0, NONE, 2, 2), 2);
        walk.due("b is not asked of this", x.worst(1, NONE, 0, 0), 1);
    }

    /** 1 on a and b; a takes 3 minutes and is so for two of ten, b is so for nine. */
    private static CoalForm bothAsked() {
        CoalForm x = of(2, "1:a&b");
        x.sort(1);
        x.chance(0, 0, 2);
        x.chance(0, 1, 9);
        x.set(0, 0, 3);
        return x;
    }

    private static void means() {
        Walk walk = Walk.on(22, "MEAN: the least that SHARE times MINUTES of all askings can come to together; WORST: the "
                + "least that MINUTES can come to in the worst CASE (of all CASES that agree, whatever their CHANCE);");
        CoalForm x = bothAsked();
        walk.due("a first: 100 times 3, 20 times 1", x.mean(0, NONE, 0, 0), 320);
        walk.due("both", x.worst(0, NONE, 0, 0), 4);
        x.set(0, 0, 9);
        walk.due("b first: 100 times 1, 90 times 9", x.mean(0, NONE, 0, 0), 910);
        x.chance(0, 0, 0);
        walk.due("a first: 100 times 9, 0 times 1", x.mean(0, NONE, 0, 0), 900);
        walk.due("nobody has a, still both", x.worst(0, NONE, 0, 0), 10);
        walk.due("behind a", x.mean(0, NONE, 1, 1), 0);
        walk.due("behind a, worst", x.worst(0, NONE, 1, 1), 1);
        CoalForm y = of(3, LAW);
        y.sort(1);
        walk.due("b, then a, or c and a", y.mean(0, NONE, 0, 0), 1000 + 500 + 500 + 250);
    }

    private static void best() {
        Walk walk = Walk.on(24, "BEST to ask next by MEAN, by WORST: of those that lead to that the lowest FACT.");
        CoalForm x = bothAsked();
        walk.due("a by mean", x.best(0, NONE, 0, 0, 0), 0);
        x.set(0, 0, 9);
        walk.due("b by mean", x.best(0, NONE, 0, 0, 0), 1);
        walk.due("of both a by worst", x.best(0, NONE, 0, 0, 1), 0);
        CoalForm y = of(3, LAW);
        y.sort(1);
        walk.due("b by mean, of three", y.best(0, NONE, 0, 0, 0), 1);
        walk.due("a by worst, of three", y.best(0, NONE, 0, 0, 1), 0);
        walk.due("behind b, c by mean", y.best(0, NONE, 2, 2, 0), 2);
        walk.due("behind b, c by worst: a leads to 2, too", y.best(0, NONE, 2, 2, 1), 0);
    }

    private static void notAskedOut() {
        Walk walk = Walk.on(22, "None, if it can't be asked out.");
        CoalForm x = bothAsked();
        x.set(2, 1, 1);
        walk.due("mean", x.mean(0, NONE, 0, 0), NONE);
        walk.due("worst", x.worst(0, NONE, 0, 0), NONE);
        walk.due("best by mean", x.best(0, NONE, 0, 0, 0), NONE);
        walk.due("best by worst", x.best(0, NONE, 0, 0, 1), NONE);
        walk.due("behind a that is not so", x.mean(0, NONE, 1, 0), 0);
        walk.due("behind b", x.mean(0, NONE, 2, 2), 90 * 3);
    }

    private static void costs() {
        Walk walk = Walk.on(25, "COST of a FORM: MEAN: SHARE of what is KNOWN at each NODE as one comes to it (nothing at "
                + "NODE 0) times MINUTES of its FACT, all together (a FACT that is asked again on the way: as it is KNOWN "
                + "then); WORST: the most MINUTES of a CASE.");
        CoalForm x = bothAsked();
        Check.form(x, "a>1,=-;b>=1,=-");
        Check.form(x, "a>1,=-;a>=1,=-");
        walk.due("100 times 3, 20 times 1", x.cost(0), 320);
        walk.due("3 and 1", x.longest(0), 4);
        walk.due("100 times 3, 20 times 3", x.cost(1), 360);
        walk.due("3 and 3", x.longest(1), 6);
        CoalForm y = new CoalForm(3);
        y.sort(1);
        Check.form(y, "a>1,2;b>2,=1;c>=1,=2");
        walk.due("by two ways to c", y.cost(0), 1000 + 500 + 500 + 250);
        walk.due("three", y.longest(0), 3);
    }

    // ---- 4 ----

    private static void page() {
        Walk walk = Walk.on(27, "PAGE: QUESTIONS (each with MINUTES; 1 at first) that one answers all at once, so that "
                + "what the LAW SAYS is told by the answers alone: the set with the least MINUTES together, of several "
                + "the fewest, then that with the lower QUESTION where two first differ.");
        CoalForm x = questions(of(3, MOST, "1:a|!a"), "a&b", "b&c", "a&c", "2#abc", "a", "b", "c");
        walk.due("one tells it", x.page(0), 8);
        x.set(1, 3, 2);
        walk.due("of two minutes", x.page(0), 8);
        x.set(1, 3, 3);
        walk.due("of three minutes, as three others", x.page(0), 8);
        x.set(1, 3, 4);
        walk.due("three, the lowest", x.page(0), 7);
        x.set(1, 0, 2);
        walk.due("the three facts", x.page(0), 112);
        walk.due("nothing need be asked", x.page(1), 0);
        walk.due("no set does", questions(of(3, MOST), "a", "b", "a&c").page(0), NONE);
    }

    private static void tells() {
        Walk walk = Walk.on(28, "TELLS: of how many pairs of CASES, on which the LAW SAYS unlike things, a QUESTION parts "
                + "both.");
        CoalForm x = questions(of(3, MOST, LAW), "2#abc", "a", "a&b", "a|!a");
        walk.due("all", x.tells(0, 0), 16);
        walk.due("3 times 3 and 1 times 1", x.tells(1, 0), 10);
        walk.due("2 times 4", x.tells(2, 0), 8);
        walk.due("none", x.tells(3, 0), 0);
        walk.due("2, 2, 3 and nothing from 4, 4, 4 and 3", x.tells(1, 1), 16 - 1);
    }

    private static CoalForm bothFormed() {
        CoalForm x = of(2, "1:a&b", "1:a");
        Check.form(x, "a>1,=-;b>=1,=-");
        Check.form(x, "a>1,=-;a>=1,=-");
        return x;
    }

    private static void wrong() {
        Walk walk = Walk.on(18, "WRONG answers: of a FACT by a chance (0 .. 10 of ten; 0 at first), each asking by "
                + "itself.");
        CoalForm x = bothFormed();
        walk.due("at first", x.off(1, 1, 1), 0);
        walk.due("-1", x.set(3, 0, -1), false);
        walk.due("11", x.set(3, 0, 11), false);
        walk.due("1", x.set(3, 0, 1), true);
        walk.due("nine of ten, twice", x.off(1, 1, 1), 190000000000L);
        walk.due("one of ten, twice", x.off(1, 1, 0), 10000000000L);
        walk.due("10", x.set(3, 0, 10), true);
        walk.due("always wrong", x.off(1, 1, 1), 1000000000000L);
    }

    private static void off() {
        Walk walk = Walk.on(29, "OFF of a FORM and a CASE by a LAW: how likely the FORM says otherwise than the LAW on "
                + "that CASE, in parts of 10 to the 12.");
        CoalForm x = bothFormed();
        x.set(3, 0, 1);
        x.set(3, 1, 2);
        walk.due("a wrong and b wrong", x.off(0, 0, 0), 20000000000L);
        walk.due("a right and b wrong", x.off(0, 0, 1), 180000000000L);
        walk.due("a wrong and b right", x.off(0, 0, 2), 80000000000L);
        walk.due("not both right", x.off(0, 0, 3), 280000000000L);
        walk.due("by another law", x.off(0, 1, 1), 820000000000L);
    }

    private static void weak() {
        Walk walk = Walk.on(30, "WEAK: the FACT that, if it were always answered right, would make OFF, over all CASES "
                + "together, least (of several the lowest).");
        CoalForm x = bothFormed();
        walk.due("none is wrong", x.weak(0, 0), 0);
        x.set(3, 0, 1);
        x.set(3, 1, 2);
        walk.due("2 of ten on two cases, or 1 of ten", x.weak(0, 0), 1);
        walk.due("only a is asked", x.weak(1, 1), 0);
        x.set(3, 0, 2);
        walk.due("as much of both", x.weak(0, 0), 0);
    }

    /** x behind so many steps. */
    private static BigInteger stepped(long seed, int steps) {
        BigInteger all = BigInteger.ONE.shiftLeft(64);
        BigInteger x = BigInteger.valueOf(seed).mod(all);
        for (int k = 0; k < steps; k++) {
            x = x.multiply(new BigInteger("6364136223846793005")).add(new BigInteger("1442695040888963407")).mod(all);
        }
        return x;
    }

    private static int drawn(long seed, int steps, int n) {
        return stepped(seed, steps).shiftRight(33).mod(BigInteger.valueOf(n)).intValue();
    }

    private static void draws() {
        Walk walk = Walk.on(31, "PEOPLE by a seed: x, at first the seed, becomes x times 6364136223846793005 and "
                + "1442695040888963407 (64 bits, going round); a draw of n: x shifted right by 33, without sign, modulo "
                + "n.");
        CoalForm x = new CoalForm(1);
        for (int k = 0; k < 3; k++) {
            x.sort(1);
        }
        long[] seeds = {0, 1, -1, 42, Long.MAX_VALUE, Long.MIN_VALUE, 6364136223846793005L};
        for (long seed : seeds) {
            walk.due("the sort by " + seed, x.person(seed, 1), drawn(seed, 1, 3));
        }
    }

    private static void people() {
        Walk walk = Walk.on(31, "First the SORT by a draw of all weights together (SORTS by numbers), then, FACT by FACT, "
                + "by a draw of 10: it is so, if that is below its CHANCE.");
        CoalForm x = new CoalForm(2);
        int[] weights = {2, 5, 1};
        int[][] chances = {{3, 8}, {6, 1}, {0, 10}};
        for (int s = 0; s < 3; s++) {
            x.sort(weights[s]);
            x.chance(s, 0, chances[s][0]);
            x.chance(s, 1, chances[s][1]);
        }
        for (long seed = -50; seed < 50; seed++) {
            int at = drawn(seed, 1, 8);
            int sort = at < 2 ? 0 : at < 7 ? 1 : 2;
            int a = drawn(seed, 2, 10) < chances[sort][0] ? 1 : 0;
            int b = drawn(seed, 3, 10) < chances[sort][1] ? 2 : 0;
            walk.due("the sort by " + seed, x.person(seed, 1), sort);
            walk.due("the case by " + seed, x.person(seed, 0), a | b);
        }
    }

    private static void mends() {
        Walk walk = Walk.on(32, "MEND of two LAWS (the first one changed into the second): CLAUSES of the second at whose "
                + "places (by numbers) the first has another one, in OUTCOME or in CASES by which it holds (or none): as "
                + "bits.");
        CoalForm x = of(3, "1:a;2:b;3:c", "1:a;3:b;3:c&c;4:a|b", "1:aub", "1:a&!b", "1:b;1:a&!b");
        walk.due("another outcome, and one more", x.mend(0, 1), 10);
        walk.due("one fewer", x.mend(1, 0), 2);
        walk.due("told otherwise", x.mend(2, 3), 0);
        walk.due("at other places", x.mend(3, 4), 3);
        walk.due("by its place alone", x.mend(4, 3), 1);
    }

    private static void swaps() {
        Walk walk = Walk.on(33, "SWAP of a LAW: two CLAUSES one behind the other (i and the next) that could stand the "
                + "other way round, and it SAID the same on each CASE.");
        CoalForm x = of(3, "1:a;2:b;2:c;1:b&!b", "3:a&b;1:a;2:b");
        walk.due("both hold on a and b", x.swap(0, 0), 0);
        walk.due("of like outcomes", x.swap(0, 1), 1);
        walk.due("the next never holds", x.swap(0, 2), 1);
        walk.due("none is next", x.swap(0, 3), NONE);
        walk.due("another comes first where both hold", x.swap(1, 1), 1);
        walk.due("the first and the next", x.swap(1, 0), 0);
    }

    // ---- 5 ----

    private static void charts() {
        Walk walk = Walk.on(34, "CHART of a LAW by an ORDER of all FACTS: of each FACT, in that ORDER, as many BOXES as "
                + "there are unlike ways in which what the LAW SAYS may go on by the FACTS from it on (by all that may be "
                + "KNOWN of those ahead of it), not counting those in which this FACT does not MATTER any more.");
        CoalForm x = of(4, "1:a&b|c&d", "2:d", "1:a|!a");
        walk.due("a, b, c, d: one of each", x.chart(0, 27, 0), 4);
        walk.due("a, c, b, d: 1, 2, 2, 1", x.chart(0, 39, 0), 6);
        walk.due("d alone", x.chart(1, 27, 0), 1);
        walk.due("no box", x.chart(2, 27, 0), 0);
        walk = Walk.on(34, "SIZE: all BOXES.");
        walk.due("b, d, c, a: 1, 2, 2, 1", x.chart(0, 64 + 48 + 8, 0), 6);
    }

    private static void orders() {
        Walk walk = Walk.on(34, "An ORDER is told as a number to the base of how many FACTS there are, the first FACT the "
                + "highest digit.");
        CoalForm x = of(3, LAW);
        for (int order = -1; order <= 27; order++) {
            boolean all = order == 5 || order == 7 || order == 11 || order == 15 || order == 19 || order == 21;
            walk.due("order " + order, x.chart(0, order, 0) != NONE, all);
            walk.due("straight by order " + order, x.straight(0, order, 0) != NONE, all);
        }
        walk.due("one fact", of(1, "1:a").chart(0, 0, 0), 1);
        walk.due("one fact, no order", of(1, "1:a").chart(0, 1, 0), NONE);
    }

    private static void least() {
        Walk walk = Walk.on(35, "LEAST: the fewest BOXES of all ORDERS, and the lowest ORDER with these.");
        CoalForm x = of(4, "1:a&b|c&d", "1:a&c|b&d", "1:a|!a");
        walk.due("four", x.least(0, 0), 4);
        walk.due("a, b, c, d", x.least(0, 1), 27);
        walk.due("four, too", x.least(1, 0), 4);
        walk.due("a, c, b, d", x.least(1, 1), 39);
        walk.due("none", x.least(2, 0), 0);
        walk.due("the lowest of all", x.least(2, 1), 27);
    }

    private static void width() {
        Walk walk = Walk.on(34, "WIDTH: the most BOXES of one FACT.");
        CoalForm x = of(4, "1:a&b|c&d", "1:a|!a");
        walk.due("a, b, c, d", x.chart(0, 27, 1), 1);
        walk.due("a, c, b, d", x.chart(0, 39, 1), 2);
        walk.due("none", x.chart(1, 39, 1), 0);
    }

    private static void rulings() {
        Walk walk = Walk.on(36, "RULINGS (20 at most): on a CASE what should be SAID (0 .. 5, or nothing).");
        CoalForm x = of(3, LAW);
        walk.due("6", x.ruling(0, 6), NONE);
        walk.due("0", x.ruling(7, 0), 1);
        walk.due("nothing", x.ruling(7, NONE), 2);
        for (int k = 3; k <= 20; k++) {
            walk.due("so many", x.ruling(0, 5), k);
        }
        walk.due("one more", x.ruling(0, 5), NONE);
        walk = Walk.on(37, "AGAINST: those of which the LAW SAYS otherwise.");
        CoalForm y = of(3, LAW, "1:a;4:!a");
        y.ruling(0, 4);
        y.ruling(1, 1);
        y.ruling(3, NONE);
        y.ruling(6, 4);
        walk.due("the second and the last", y.against(0), 10);
        walk.due("of another law the third", y.against(1), 4);
    }

    private static void cures() {
        Walk walk = Walk.on(38, "CURE: the fewest CLAUSES of it to be struck so that none is against (of several sets that "
                + "with the lower CLAUSE where two first differ).");
        CoalForm x = of(3, LAW, "1:a;2:a;3:a;1:a");
        walk.due("no ruling yet", x.cure(0), 0);
        x.ruling(0, 4);
        x.ruling(3, NONE);
        x.ruling(6, 4);
        walk.due("without b and c", x.cure(0), 2);
        x.ruling(1, 1);
        walk.due("it never says 1", x.cure(0), NONE);
        CoalForm y = of(3, LAW, "1:a;2:a;3:a;1:a");
        y.ruling(1, 3);
        walk.due("both ahead of the third", y.cure(1), 3);
        CoalForm z = of(3, "1:a;2:a;3:a;1:a");
        z.ruling(1, 1);
        walk.due("the first says so", z.cure(0), 0);
        z.ruling(0, 1);
        walk.due("nothing holds there", z.cure(0), NONE);
    }

    private static void burdens() {
        Walk walk = Walk.on(39, "BURDEN of a CLAUSE: on how many CASES the LAW would SAY otherwise without it; IDLE: "
                + "CLAUSES of which that is none.");
        CoalForm x = of(3, LAW, "1:a;1:a&b;2:b");
        int[] due = {2, 2, 3};
        int[] other = {2, 0, 2};
        for (int k = 0; k < 3; k++) {
            walk.due("clause " + k, x.burden(0, k), due[k]);
            walk.due("clause " + k + " of the other", x.burden(1, k), other[k]);
        }
        walk.due("none is idle", x.burden(0, NONE), 0);
        walk.due("the second is idle", x.burden(1, NONE), 2);
    }

    private static CoalForm asked() {
        return questions(of(3, LAW), "a", "b&c", "a|b");
    }

    private static void given() {
        Walk walk = Walk.on(40, "GIVEN some QUESTIONS and how they were answered (bits within): what the LAW SAYS on all "
                + "CASES that answer so, if it is one thing; how many such CASES there are.");
        CoalForm x = asked();
        int[][] due = {{1, 0, HIDDEN, 4}, {3, 0, 4, 3}, {2, 2, 3, 2}, {3, 1, HIDDEN, 3}, {5, 1, HIDDEN, 0},
            {0, 0, HIDDEN, 8}, {7, 5, HIDDEN, 3}};
        for (int[] row : due) {
            walk.due("what it says by " + row[0] + ", " + row[1], x.given(0, row[0], row[1], 0), row[2]);
            walk.due("how many by " + row[0] + ", " + row[1], x.given(0, row[0], row[1], 1), row[3]);
        }
        CoalForm y = questions(of(2, "1:a"), "a");
        walk.due("nothing is one thing", y.given(0, 1, 0, 0), NONE);
        for (int what = 0; what < 3; what++) {
            walk.due("answered but not asked", x.given(0, 1, 2, what), HIDDEN);
        }
    }

    private static void ask() {
        Walk walk = Walk.on(40, "ASK of these: the QUESTION not among them by which the most CASES in the worse of both "
                + "answers are fewest (of several the lowest), if there are such CASES and the LAW is not told by the "
                + "answers yet.");
        CoalForm x = asked();
        walk.due("4 and 4, 6 and 2, 2 and 6", x.given(0, 0, 0, 2), 0);
        walk.due("without a: 3 and 1, 2 and 2", x.given(0, 1, 0, 2), 2);
        walk.due("with a: 3 and 1, 0 and 4", x.given(0, 1, 1, 2), 1);
        walk.due("told", x.given(0, 2, 2, 2), NONE);
        walk.due("no such case", x.given(0, 5, 1, 2), NONE);
        walk.due("none is left", x.given(0, 7, 5, 2), NONE);
        walk.due("of several the lowest", questions(of(3, MOST), "c", "b", "a").given(0, 0, 0, 2), 0);
    }

    private static void offices() {
        Walk walk = Walk.on(41, "OFFICE that takes one FACT for another one and that for it: on how many CASES a LAW is "
                + "READ otherwise so.");
        CoalForm x = of(3, LAW, MOST);
        walk.due("a and b", x.office(0, 0, 1), 4);
        walk.due("a and c", x.office(0, 0, 2), 4);
        walk.due("b and c", x.office(0, 1, 2), 2);
        walk.due("c and b", x.office(0, 2, 1), 2);
        walk.due("all alike", x.office(1, 0, 2), 0);
    }

    private static void likely() {
        Walk walk = Walk.on(42, "LIKELY of an OUTCOME (or nothing): SHARE of all CASES on which the LAW SAYS so, all FACTS "
                + "KNOWN, together; by SORTS: that of one SORT alone.");
        CoalForm x = twoSorts("1:a&b;2:a");
        int[][] due = {{NONE, 280, 240, 40}, {0, 0, 0, 0}, {1, 222, 42, 180}, {2, 198, 18, 180}};
        for (int[] row : due) {
            walk.due("all sorts of " + row[0], x.likely(0, row[0], NONE), row[1]);
            walk.due("the first of " + row[0], x.likely(0, row[0], 0), row[2]);
            walk.due("the second of " + row[0], x.likely(0, row[0], 1), row[3]);
        }
    }

    private static void straight() {
        Walk walk = Walk.on(43, "STRAIGHT: a FORM made of a LAW: QUESTIONS by FACTS in an ORDER, each asked just if it "
                + "MATTERS still by what is KNOWN: MINUTES of it in the worst CASE; how many FACTS are asked on a CASE.");
        CoalForm x = of(3, LAW, "1:a;2:!a&b");
        int[] forth = {2, 2, 3, 3, 2, 2, 3, 3};
        int[] back = {3, 3, 3, 3, 3, 3, 2, 2};
        for (int c = 0; c < 8; c++) {
            walk.due("a, b, c on " + c, x.straight(0, 5, c), forth[c]);
            walk.due("c, b, a on " + c, x.straight(0, 21, c), back[c]);
        }
        x.set(0, 0, 2);
        x.set(0, 1, 3);
        x.set(0, 2, 5);
        walk.due("all three", x.straight(0, 5, NONE), 10);
        walk.due("c never matters", x.straight(1, 5, NONE), 5);
        walk.due("c, b, a: c is not asked", x.straight(1, 21, 0), 2);
    }

    private static void refused() {
        Walk walk = Walk.on(0, "What is refused answers as told and changes nothing.");
        CoalForm tried = State.filled();
        CoalForm other = State.filled();
        walk.due("end", tried.end(6), false);
        walk.due("text", tried.text(2), NONE);
        walk.due("set", tried.set(0, 0, 100), false);
        walk.due("sort", tried.sort(10), NONE);
        walk.due("chance", tried.chance(0, 3, 1), false);
        walk.due("ruling", tried.ruling(8, 1), NONE);
        State.same("walk: what was refused changed nothing", tried, other);
    }
}
