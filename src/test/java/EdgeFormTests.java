/** The boundaries that promises 13 to 17, 25, 26, 29 and 30 name: what forms say, what they cost, wrong answers. */
final class EdgeFormTests {
    private static final long WHOLE = 1000000000000L;
    /** Twelve nodes one behind the other, each on a: if it is not so the next one. */
    private static final String CHAIN =
            "a>=0,1;a>=0,2;a>=0,3;a>=0,4;a>=0,5;a>=0,6;a>=0,7;a>=0,8;a>=0,9;a>=0,10;a>=0,11;a>=0,=5";

    private EdgeFormTests() {
    }

    static void all() {
        leadsOrThrown();
        apart();
        unlike();
        spoiled();
        unused();
        cost();
        askedAgain();
        longest();
        off();
        wrongByTenths();
        reached();
        weak();
    }

    private static CoalForm of(int facts, String... forms) {
        CoalForm x = new CoalForm(facts);
        for (String form : forms) {
            Check.due("a form is taken: " + form, Check.form(x, form) >= 0, true);
        }
        return x;
    }

    // ---- promise 13 ----

    private static void leadsOrThrown() {
        Edge edge = Edge.of(13, "What a FORM SAYS on a CASE. NoSuchElementException: no such ones.");
        edge.refused("the first form, the first case", -1, x -> Edge.leads(x, 0, 0));
        edge.refused("the last form, the last case", 3, x -> Edge.leads(x, 1, 6));
        edge.refused("a form behind the last", Edge.THROWN, x -> Edge.leads(x, 2, 7));
        edge.refused("a case behind the last", Edge.THROWN, x -> Edge.leads(x, 1, 8));
        edge.refused("a form ahead of the first", Edge.THROWN, x -> Edge.leads(x, -1, 0));
        edge.refused("a case ahead of the first", Edge.THROWN, x -> Edge.leads(x, 0, -1));
        edge.refused("neither", Edge.THROWN, x -> Edge.leads(x, -1, -1));
        for (int far : Edge.FAR) {
            edge.refused("a form far: " + far, Edge.THROWN, x -> Edge.leads(x, far, 0));
            edge.refused("a case far: " + far, Edge.THROWN, x -> Edge.leads(x, 0, far));
        }
        CoalForm none = new CoalForm(9);
        edge.due("no form is there yet", Edge.leads(none, 0, 0), Edge.THROWN);
        for (int k = 0; k < 6; k++) {
            edge.due("form " + k + " is not there yet", Edge.leads(none, k, 511), Edge.THROWN);
            Check.form(none, "i>=" + k + ",=-");
            edge.due("form " + k + " is there", Edge.leads(none, k, 511), k);
        }
        edge.due("511 is the last case", Edge.leads(none, 0, 512), Edge.THROWN);
        edge.due("six forms are the most", Edge.leads(none, 6, 511), Edge.THROWN);
        Edge from = Edge.of(13, "A FORM SAYS on a CASE what its TARGETS lead to from NODE 0.");
        CoalForm x = of(2, CHAIN, "a>11,=0;" + "b>=2,=2;".repeat(10) + "b>=5,=4", "a>=-,=0",
                "a>=-,=0;" + "b>=2,=2;".repeat(10) + "b>=5,=4");
        from.due("node 0 alone", Edge.leads(x, 0, 1), 0);
        from.due("all twelve nodes", Edge.leads(x, 0, 2), 5);
        from.due("from the first to the last", Edge.leads(x, 1, 3), 5);
        from.due("the last, if not", Edge.leads(x, 1, 1), 4);
        from.due("nothing", Edge.leads(x, 2, 1), -1);
        from.due("0 is not nothing", Edge.leads(x, 2, 0), 0);
        from.due("nothing, of twelve nodes", Edge.leads(x, 3, 1), -1);
        from.due("nothing is no node", x.unused(3), 4094);
    }

    // ---- promise 14 ----

    private static void apart() {
        Edge is = Edge.of(14, "It is the LAW, if they say the same on each CASE.");
        CoalForm x = of(3, "a>1,=-;b>2,=-;c>=0,=1", "a>1,=-;b>2,=-;c>=-,=1", "a>=2,=2", "a>=-,=-");
        Check.law(x, "0:a&b&c;1:a&b");
        Check.law(x, "1:a&!a");
        is.due("it is", x.apart(0, 0, -1), 0);
        is.due("but for the last case, nothing for 0", x.apart(1, 0, -1), 1);
        is.due("that case", x.apart(1, 0, 0), 7);
        is.due("nothing at all is nothing", x.apart(3, 1, -1), 0);
        is.due("on none", x.apart(2, 1, -1), 8);
        Edge edge = Edge.of(14, "CASES on which a FORM SAYS otherwise than a LAW: how many (i NONE), the i-th. NONE: no such ones.");
        for (int i = -1; i < 10; i++) {
            edge.due("none, " + i, x.apart(0, 0, i), i == -1 ? 0 : -1);
            edge.due("one, " + i, x.apart(1, 0, i), i == -1 ? 1 : i == 0 ? 7 : -1);
            edge.due("all, " + i, x.apart(2, 1, i), i == -1 ? 8 : i < 8 ? i : -1);
        }
        CoalForm nine = of(9, "a>=2,=2");
        Check.law(nine, "1:a");
        edge.due("all of 512", nine.apart(0, 0, -1), 512);
        edge.due("the last of 512", nine.apart(0, 0, 511), 511);
        edge.due("one behind the last of 512", nine.apart(0, 0, 512), -1);
        edge.refused("the last form, the last law", 7, y -> y.apart(1, 2, -1));
        edge.refused("a form behind the last", -1, y -> y.apart(2, 0, -1));
        edge.refused("a law behind the last", -1, y -> y.apart(0, 3, -1));
        edge.refused("a form ahead of the first", -1, y -> y.apart(-1, 0, -1));
        edge.refused("a law ahead of the first", -1, y -> y.apart(0, -1, -1));
        edge.refused("the last i", 7, y -> y.apart(1, 2, 6));
        edge.refused("i behind the last", -1, y -> y.apart(1, 2, 7));
        edge.refused("i -2", -1, y -> y.apart(1, 2, -2));
        for (int far : Edge.FAR) {
            edge.refused("a form far: " + far, -1, y -> y.apart(far, 0, -1));
            edge.refused("a law far: " + far, -1, y -> y.apart(0, far, -1));
            edge.refused("an i far: " + far, -1, y -> y.apart(1, 2, far));
        }
    }

    // ---- promise 15 ----

    private static void unlike() {
        Edge edge = Edge.of(15, "The lowest CASE on which two FORMS SAY unlike things. NONE: none, no such ones.");
        CoalForm x = of(3, "a>=0,=1", "a>=0,1;b>=1,2;c>=1,=2", "a>1,=1;b>2,=0;c>=-,=0", "a>=-,=1", "a>=0,1;a>=5,=1");
        edge.due("the first case", x.unlike(0, 1), 0);
        edge.due("the last case", x.unlike(0, 2), 7);
        edge.due("0 is not nothing", x.unlike(0, 3), 1);
        edge.due("none, though told otherwise", x.unlike(0, 4), -1);
        edge.due("one form", x.unlike(2, 2), -1);
        edge.due("the first two of all that are unlike", x.unlike(1, 3), 0);
        String eight = "a>1,=1;b>2,=1;c>3,=1;d>4,=1;e>5,=1;f>6,=1;g>7,=1;h>8,=1;i>";
        CoalForm nine = of(9, eight + "=2,=1", eight + "=3,=1", eight + "=2,=3");
        edge.due("the last of 512 alone", nine.unlike(0, 1), 511);
        edge.due("the last but 256", nine.unlike(0, 2), 255);
        edge.refused("the first and the last", 0, y -> y.unlike(0, 1));
        edge.refused("one behind the last", -1, y -> y.unlike(2, 0));
        edge.refused("other behind the last", -1, y -> y.unlike(0, 2));
        edge.refused("one ahead of the first", -1, y -> y.unlike(-1, 0));
        edge.refused("other ahead of the first", -1, y -> y.unlike(0, -1));
        for (int far : Edge.FAR) {
            edge.refused("one far: " + far, -1, y -> y.unlike(far, 0));
            edge.refused("other far: " + far, -1, y -> y.unlike(0, far));
        }
    }

    // ---- promise 16 ----

    private static void spoiled() {
        Edge edge = Edge.of(16, "NODES with a TARGET = to which some CASE leads on which the LAW SAYS otherwise.");
        CoalForm x = of(2, CHAIN, "a>1,=-;b>=1,=-", "a>=3,1;a>=4,=-");
        Check.law(x, "0:a;5:!a");
        Check.law(x, "0:a");
        Check.law(x, "1:a&b");
        Check.law(x, "0:a|!a");
        Check.law(x, "3:a");
        Check.form(x, "a>=-,1;b>=-,=-");
        edge.due("none of twelve", x.spoiled(0, 0), 0);
        edge.due("the twelfth", x.spoiled(0, 1), 2048);
        edge.due("the first and the last", x.spoiled(0, 2), 2049);
        edge.due("none: it is the law", x.spoiled(1, 2), 0);
        edge.due("nothing for 0: both", x.spoiled(1, 3), 3);
        edge.due("the second alone", x.spoiled(1, 1), 2);
        edge.due("a target to which no case leads", x.spoiled(2, 4), 0);
        Check.law(x, "1:!a&!b");
        edge.due("on the first case alone", x.spoiled(3, 5), 2);
        edge.due("on the last case alone", x.spoiled(3, 2), 1);
        Edge no = Edge.of(16, "SPOILED, as bits. NONE: no such ones.");
        no.refused("the last form, the last law", 7, y -> y.spoiled(1, 2));
        no.refused("a form behind the last", -1, y -> y.spoiled(2, 0));
        no.refused("a law behind the last", -1, y -> y.spoiled(0, 3));
        no.refused("a form ahead of the first", -1, y -> y.spoiled(-1, 0));
        no.refused("a law ahead of the first", -1, y -> y.spoiled(0, -1));
        for (int far : Edge.FAR) {
            no.refused("a form far: " + far, -1, y -> y.spoiled(far, 0));
            no.refused("a law far: " + far, -1, y -> y.spoiled(0, far));
        }
    }

    // ---- promise 17 ----

    private static void unused() {
        Edge edge = Edge.of(17, "UNUSED: NODES to which no CASE leads.");
        CoalForm x = of(1, CHAIN, "a>=0,=0" + ";a>=1,=1".repeat(11), "a>=1,=1", "a>2,=0;a>=1,=1;a>=1,3;a>=2,=2",
                "a>11,=0" + ";a>=1,=1".repeat(11));
        edge.due("none of twelve", x.unused(0), 0);
        edge.due("all but the first", x.unused(1), 4094);
        edge.due("none of one", x.unused(2), 0);
        edge.due("by a target that no case goes", x.unused(3), 10);
        edge.due("all but the first and the last", x.unused(4), 2046);
        Edge no = Edge.of(17, "UNUSED, as bits. NONE: no such FORM.");
        no.refused("the last form", 0, y -> y.unused(1));
        no.refused("a form behind the last", -1, y -> y.unused(2));
        no.refused("a form ahead of the first", -1, y -> y.unused(-1));
        for (int far : Edge.FAR) {
            no.refused("a form far: " + far, -1, y -> y.unused(far));
        }
    }

    // ---- promise 25 ----

    private static void cost() {
        Edge edge = Edge.of(25, "SHARE of what is KNOWN at each NODE as one comes to it (nothing at NODE 0) times MINUTES of its FACT");
        CoalForm x = of(2, "a>=1,=0", "a>1,=0;b>=1,=0");
        edge.due("no sorts", x.cost(0), 0);
        x.sort(1);
        edge.due("node 0 alone: nothing is known", x.cost(0), 100);
        edge.due("and node 1: a is so", x.cost(1), 150);
        x.chance(0, 0, 0);
        edge.due("nobody comes to node 1", x.cost(1), 100);
        x.chance(0, 0, 10);
        edge.due("all come to node 1", x.cost(1), 200);
        x.set(0, 0, 99);
        edge.due("minutes of each fact", x.cost(1), 10000);
        Edge no = Edge.of(25, "COST of a FORM: MEAN. NONE: no such one.");
        no.refused("the first form", 23100, y -> y.cost(0));
        no.refused("the last form", 18450, y -> y.cost(1));
        no.refused("a form behind the last", -1, y -> y.cost(2));
        no.refused("a form ahead of the first", -1, y -> y.cost(-1));
        for (int far : Edge.FAR) {
            no.refused("a form far: " + far, -1, y -> y.cost(far));
        }
    }

    private static void askedAgain() {
        Edge edge = Edge.of(25, "(a FACT that is asked again on the way: as it is KNOWN then)");
        CoalForm x = of(1, "a>1,=1;a>=1,2;a>=0,=0", "a>1,=1;a>2,=0;a>=0,=0", CHAIN);
        x.sort(1);
        x.chance(0, 0, 3);
        edge.due("a is so, and nobody goes on as if not", x.cost(0), 10 + 3);
        edge.due("a is so once more", x.cost(1), 10 + 3 + 3);
        edge.due("eleven times not so", x.cost(2), 10 + 11 * 7);
        CoalForm nine = of(9, CHAIN);
        for (int k = 0; k < 4; k++) {
            nine.sort(9);
            nine.chance(k, 0, 0);
        }
        nine.set(0, 0, 99);
        edge.due("the most that can come together", nine.cost(0), 36000000000L * 99 * 12);
    }

    // ---- promise 26 ----

    private static void longest() {
        Edge edge = Edge.of(26, "WORST: the most MINUTES of a CASE.");
        CoalForm x = of(9, "a>=1,=0", CHAIN, "a>1,2;b>=1,=1;i>=1,=1", "a>=0,1;a>2,=1;i>=1,=1");
        edge.due("one node", x.longest(0), 1);
        edge.due("twelve nodes", x.longest(1), 12);
        x.set(0, 0, 99);
        edge.due("one node, the most minutes", x.longest(0), 99);
        edge.due("twelve nodes, the most minutes", x.longest(1), 1188);
        edge.due("two ways alike", x.longest(2), 100);
        x.set(0, 8, 2);
        edge.due("the longer one", x.longest(2), 101);
        x.set(0, 1, 3);
        edge.due("now the other one", x.longest(2), 102);
        edge.due("a way that no case goes", x.longest(3), 198);
        edge.due("the first case alone", of(1, CHAIN).longest(0), 12);
        Edge no = Edge.of(26, "COST of a FORM: WORST. NONE: no such one.");
        no.refused("the last form", 6, y -> y.longest(1));
        no.refused("a form behind the last", -1, y -> y.longest(2));
        no.refused("a form ahead of the first", -1, y -> y.longest(-1));
        for (int far : Edge.FAR) {
            no.refused("a form far: " + far, -1, y -> y.longest(far));
        }
    }

    // ---- promise 29 ----

    private static void off() {
        Edge edge = Edge.of(29, "how likely the FORM says otherwise than the LAW on that CASE, in parts of 10 to the 12");
        CoalForm x = of(1, CHAIN, "a>=1,=0");
        Check.law(x, "1:a;0:!a");
        Check.law(x, "0:a;1:!a");
        Check.law(x, "0:a|!a");
        Check.law(x, "5:a|!a");
        edge.due("never", x.off(1, 0, 1), 0);
        edge.due("for certain", x.off(1, 1, 1), WHOLE);
        x.set(3, 0, 1);
        edge.due("a tenth", x.off(1, 0, 1), WHOLE / 10);
        edge.due("all but a tenth", x.off(1, 1, 1), WHOLE - WHOLE / 10);
        edge.due("one part: twelve times wrong", x.off(0, 2, 1), 1);
        edge.due("all but one part", x.off(0, 3, 1), WHOLE - 1);
        edge.due("neither target is what the law says", x.off(0, 0, 1), WHOLE);
        edge.due("twelve times right", x.off(0, 2, 0), 282429536481L);
        Edge no = Edge.of(29, "OFF. NONE: no such ones.");
        no.refused("the first of all", 180000000000L, y -> y.off(0, 0, 0));
        no.refused("the last of all", 920000000000L, y -> y.off(1, 2, 7));
        no.refused("a form behind the last", -1, y -> y.off(2, 0, 0));
        no.refused("a law behind the last", -1, y -> y.off(0, 3, 0));
        no.refused("a case behind the last", -1, y -> y.off(0, 0, 8));
        no.refused("a form ahead of the first", -1, y -> y.off(-1, 0, 0));
        no.refused("a law ahead of the first", -1, y -> y.off(0, -1, 0));
        no.refused("a case ahead of the first", -1, y -> y.off(0, 0, -1));
        for (int far : Edge.FAR) {
            no.refused("a form far: " + far, -1, y -> y.off(far, 0, 0));
            no.refused("a law far: " + far, -1, y -> y.off(0, far, 0));
            no.refused("a case far: " + far, -1, y -> y.off(0, 0, far));
        }
    }

    private static void wrongByTenths() {
        Edge edge = Edge.of(29, "WRONG answers: of a FACT by a chance (0 .. 10 of ten; 0 at first), each asking by itself.");
        CoalForm x = of(1, "a>=1,=0", "a>1,=0;a>=1,=0");
        Check.law(x, "1:a;0:!a");
        for (int wrong = 0; wrong <= 10; wrong++) {
            x.set(3, 0, wrong);
            long right = 10 - wrong;
            edge.due("asked once, " + wrong, x.off(0, 0, 1), WHOLE / 10 * wrong);
            edge.due("asked twice, " + wrong, x.off(1, 0, 1), WHOLE - WHOLE / 100 * right * right);
            edge.due("asked twice if wrongly so, " + wrong, x.off(1, 0, 0), WHOLE / 100 * wrong * wrong);
        }
    }

    private static void reached() {
        Edge edge = Edge.of(29, "how likely the FORM says otherwise than the LAW on that CASE");
        CoalForm x = of(2, "a>1,1;b>=1,=0", "a>2,1;a>2,2;b>=1,=-", "a>=-,=0;" + "b>=2,=2;".repeat(10) + "b>=5,=4");
        Check.law(x, "1:b");
        x.set(3, 0, 3);
        edge.due("a node that is reached either way: rightly", x.off(0, 0, 2), 0);
        edge.due("from three sides", x.off(1, 0, 3), 0);
        x.set(3, 1, 2);
        edge.due("wrongly from there", x.off(0, 0, 3), WHOLE / 5);
        edge.due("from three sides, wrongly", x.off(1, 0, 0), WHOLE / 5);
        edge.due("nothing, of twelve nodes", x.off(2, 0, 1), WHOLE / 10 * 3);
        edge.due("0 for 1, or nothing", x.off(2, 0, 3), WHOLE);
    }

    // ---- promise 30 ----

    private static void weak() {
        Edge edge = Edge.of(30, "make OFF, over all CASES together, least (of several the lowest)");
        CoalForm x = of(9, "i>1,=0;a>=1,=0", "b>=1,=0");
        Check.law(x, "1:i&a;0:!(i&a)");
        edge.due("none is ever wrong: the lowest", x.weak(0, 0), 0);
        x.set(3, 8, 1);
        edge.due("the last alone", x.weak(0, 0), 8);
        edge.due("it is not asked: the lowest", x.weak(1, 0), 0);
        x.set(3, 0, 1);
        edge.due("both alike: the lower", x.weak(0, 0), 0);
        x.set(3, 8, 2);
        edge.due("the last is worse", x.weak(0, 0), 8);
        x.set(3, 8, 10);
        x.set(3, 0, 10);
        edge.due("both are always wrong", x.weak(0, 0), 0);
        CoalForm all = of(2, "a>=1,1;b>=2,=0");
        Check.law(all, "1:a;2:b;0:!b");
        all.set(3, 0, 1);
        all.set(3, 1, 2);
        edge.due("two cases in ten as bad as four in twenty: the lower", all.weak(0, 0), 0);
        all.set(3, 1, 3);
        edge.due("not by the last case alone", all.weak(0, 0), 1);
        all.set(3, 0, 2);
        all.set(3, 1, 3);
        edge.due("not by the first case alone", all.weak(0, 0), 0);
        Edge no = Edge.of(30, "WEAK: the FACT. NONE: no such ones.");
        no.refused("the last form, the last law", 2, y -> y.weak(1, 2));
        no.refused("a form behind the last", -1, y -> y.weak(2, 0));
        no.refused("a law behind the last", -1, y -> y.weak(0, 3));
        no.refused("a form ahead of the first", -1, y -> y.weak(-1, 0));
        no.refused("a law ahead of the first", -1, y -> y.weak(0, -1));
        for (int far : Edge.FAR) {
            no.refused("a form far: " + far, -1, y -> y.weak(far, 0));
            no.refused("a law far: " + far, -1, y -> y.weak(0, far));
        }
    }
}
