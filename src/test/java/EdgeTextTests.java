/** The boundaries that promises 1 to 5 and 44 name: objects, the tape, faults and texts. */
final class EdgeTextTests {
    private EdgeTextTests() {
    }

    static void all() {
        nearestNumber();
        newObject();
        lastCall();
        bytesOfNought();
        highestFirst();
        moreThan160();
        firstBytesAlone();
        noSuchSort();
        letters();
        clauses();
        outcomes();
        unless();
        several();
        questionsAreConditions();
        nodes();
        targets();
        numbersOfNodes();
        thirdDigit();
        nodesThatAreNotThere();
        blanks();
        withinOneAnother();
        tooEarly();
        texts();
        soMany();
        counts();
    }

    // ---- promise 1 ----

    private static void nearestNumber() {
        Edge edge = Edge.of(1, "So many FACTS (the nearest number that may be).");
        for (int n = 1; n <= 9; n++) {
            edge.due(n + " may be", new CoalForm(n).count(4), n);
        }
        for (int n : new int[] {0, -1, -2, -9, Integer.MIN_VALUE}) {
            edge.due(n + " is nearest to 1", new CoalForm(n).count(4), 1);
        }
        for (int n : new int[] {10, 11, 32, 99, Integer.MAX_VALUE}) {
            edge.due(n + " is nearest to 9", new CoalForm(n).count(4), 9);
        }
        Edge cases = Edge.of(1, "A CASE is told as bits: bit 0 is a, and so on.");
        for (int n = 1; n <= 9; n++) {
            CoalForm x = new CoalForm(n);
            int last = (1 << n) - 1;
            Check.law(x, "1:" + (char) ('a' + n - 1) + ";0:a");
            cases.due("of " + n + " facts all may be so", Edge.says(x, 0, last), 1);
            cases.due("of " + n + " facts the last alone", Edge.says(x, 0, 1 << n - 1), 1);
            cases.due("of " + n + " facts none may be so", Edge.says(x, 0, 0), -1);
            cases.due("of " + n + " facts no more bits", Edge.says(x, 0, last + 1), Edge.THROWN);
        }
    }

    private static void newObject() {
        Edge edge = Edge.of(1, "`CoalForm(int facts)`: So many FACTS");
        CoalForm x = new CoalForm(2);
        for (int what = 0; what < 7; what++) {
            edge.due("nothing else is there, count " + what, x.count(what), what == 4 ? 2 : 0);
        }
        edge.due("NONE", CoalForm.NONE, -1);
        edge.due("HIDDEN", CoalForm.HIDDEN, -2);
        Check.law(x, "1:a&b");
        Check.question(x, "a");
        Check.question(x, "b&a|a&b");
        Edge.of(3, "MINUTES of a FACT (1 .. 99; 1 at first)").due("two facts", x.worst(0, -1, 0, 0), 2);
        Edge.of(3, "BARRED are FACTS that can't be asked (none at first)").due("a is asked", x.best(0, -1, 0, 0, 1), 0);
        Edge.of(4, "QUESTIONS (each with MINUTES; 1 at first)").due("one is as dear as the other", x.page(0), 2);
        x.sort(1);
        Edge chance = Edge.of(3, "the CHANCE that it is so (0 .. 10 of ten; 5 at first)");
        chance.due("a is so", x.share(1, 1), 50);
        chance.due("b is not", x.share(2, 0), 50);
        Check.form(x, "a>1,=-;b>=1,=-");
        Edge wrong = Edge.of(4, "of a FACT by a chance (0 .. 10 of ten; 0 at first)");
        for (int c = 0; c < 4; c++) {
            wrong.due("none is wrong on " + c, x.off(0, 0, c), 0);
        }
    }

    private static void lastCall() {
        Edge edge = Edge.of(1, "An object is used for at most 512 calls after it has been made");
        CoalForm x = new CoalForm(1);
        for (int k = 1; k < 512; k++) {
            edge.due("call " + k, x.feed(0, 0, 0, 0, k <= 160 ? 'a' : 0), Math.min(k, 160));
        }
        edge.due("call 512", x.count(5), 160);
    }

    // ---- promise 2 ----

    private static void bytesOfNought() {
        Edge edge = Edge.of(2, "bytes of 0 are left out");
        CoalForm x = new CoalForm(3);
        edge.due("all twenty are 0", x.feed(0, 0, 0, 0, 0), 0);
        edge.due("all but the last", x.feed(0, 0, 0, 0, 1), 1);
        edge.due("all but the first", x.feed(1 << 24, 0, 0, 0, 0), 2);
        edge.due("all but one in the middle", x.feed(0, 0, 1 << 16, 0, 0), 3);
        edge.due("all but another one", x.feed(0, 1 << 8, 0, 0, 0), 4);
        edge.due("128 and 255 are not 0", x.feed(0, 0, 0, 0x80000000, 0xff), 6);
        edge.due("none is 0", x.feed(-1, -1, -1, -1, -1), 26);
        edge.due("one of twenty is 0", x.feed(-1, -1, 0xff00ffff, -1, -1), 45);
        x.end(0);
        x.feed('1' << 16, ':' << 24, 'a', 0, '|' << 8 | 'b' << 24);
        edge.due("what stands between them comes together", x.fault(0), 3);
        x.end(0);
        x.feed('1' << 16, ':' << 24, 'a', 0, '|' << 24 | 'b' << 8);
        edge.due("in the order that it came", x.fault(0), -1);
    }

    private static void highestFirst() {
        Edge edge = Edge.of(2, "Twenty bytes more come to the TAPE (of each number the highest first");
        String text = "a&b&c|a&b&c|a&b&c|!a";
        for (int k = 0; k < 20; k++) {
            CoalForm x = new CoalForm(3);
            edge.due("all twenty come", Check.put(x, text), 20);
            edge.due("the text has no fault", x.fault(1), -1);
            Check.put(x, text.substring(0, k) + "*" + text.substring(k + 1));
            edge.due("byte " + k + " comes as the " + k + "th", x.fault(1), k);
        }
        CoalForm x = new CoalForm(3);
        Check.put(x, text);
        edge.due("more come behind these", x.feed(0, '&' << 24 | 'b' << 16, 0, 0, 0), 22);
        edge.due("at the end", x.fault(1), -1);
    }

    private static void moreThan160() {
        Edge edge = Edge.of(2, "how many it has. NONE: more than 160.");
        CoalForm x = new CoalForm(1);
        for (int k = 1; k <= 8; k++) {
            edge.due("up to " + 20 * k, x.feed(0x20202020, 0x20202020, 0x20202020, 0x20202020, 0x20202020), 20 * k);
        }
        edge.due("161", x.feed(0, 0, 0, 0, 'a'), -1);
        edge.due("180", x.feed(-1, -1, -1, -1, -1), -1);
        edge.due("none more are no more than 160", x.feed(0, 0, 0, 0, 0), 160);
        edge.due("all are blanks still", x.fault(1), 160);
        x.end(159);
        edge.due("two more than 159", x.feed('a' << 24, 0, 0, 0, ' '), -1);
        edge.due("not the first of two either", x.count(5), 159);
        edge.due("one more than 159", x.feed(0, 0, 'a' << 8, 0, 0), 160);
        edge.due("it is the last byte", x.fault(1), -1);
        x.end(140);
        edge.due("twenty more than 140", x.feed(-1, -1, -1, -1, -1), 160);
        x.end(141);
        edge.due("twenty more than 141", x.feed(-1, -1, -1, -1, -1), -1);
        edge.due("nineteen more than 141", x.feed(-1, -1, -1, -1, 0xffff00ff), 160);
        edge.refusedAfter("161, behind other things", -1, EdgeTextTests::fillTo155,
                y -> y.feed(0x20202020, 0x20200000, 0, 0, 0));
        edge.refusedAfter("175, behind other things", -1, EdgeTextTests::fillTo155,
                y -> y.feed(-1, -1, -1, -1, -1));
    }

    /** Five bytes are a law, and a hundred and fifty are blanks ahead of it. */
    private static void fillTo155(CoalForm x) {
        Check.put(x, " ".repeat(150) + "3:a|b");
    }

    // ---- promise 3 ----

    private static void firstBytesAlone() {
        Edge edge = Edge.of(3, "The TAPE has its first n bytes alone.");
        CoalForm x = new CoalForm(3);
        Check.put(x, "1:a|b");
        edge.due("all of them", x.end(5), true);
        edge.due("five", x.count(5), 5);
        edge.due("one less", x.end(4), true);
        edge.due("four: it ends too early", x.fault(0), 4);
        edge.due("three", x.end(3), true);
        edge.due("three: a law", x.fault(0), -1);
        x.feed('&' << 24, 'c' << 24, 0, 0, 0);
        edge.due("more come behind these", x.fault(0), -1);
        edge.due("as many as these and those", x.count(5), 5);
        edge.due("it is 1:a&c then", x.text(0), 0);
        edge.due("on a and c", Edge.says(x, 0, 5), 1);
        edge.due("on a alone", Edge.says(x, 0, 1), -1);
        Check.put(x, "1:a");
        edge.due("none", x.end(0), true);
        edge.due("none is there", x.count(5), 0);
        edge.due("none of none", x.end(0), true);
        Check.put(x, " ".repeat(160));
        edge.due("all 160", x.end(160), true);
        edge.due("159", x.end(159), true);

        Edge no = Edge.of(3, "False: n.");
        no.due("160 of 159", x.end(160), false);
        no.due("159 of them", x.end(159), true);
        x.end(0);
        no.due("one of none", x.end(1), false);
        no.due("less than none", x.end(-1), false);
        no.refused("one more than there are", 0, y -> Edge.yes(y.end(6)));
        no.refused("one less than none", 0, y -> Edge.yes(y.end(-1)));
        no.refused("all there are: no cut", 1, y -> Edge.yes(y.end(5)));
        no.refusedAfter("what was cut does not come back", 0, y -> y.end(3), y -> Edge.yes(y.end(4)));
        for (int n : Edge.FAR) {
            no.refused("far: " + n, 0, y -> Edge.yes(y.end(n)));
        }
    }

    // ---- promise 4 ----

    private static void fault(Edge edge, int facts, int sort, String text, int due) {
        edge.due("fault " + sort + " of " + text, Check.faultOf(new CoalForm(facts), sort, text), due);
    }

    private static void noSuchSort() {
        Edge edge = Edge.of(4, "The FAULT of the TAPE as a LAW (0), a QUESTION (1), a FORM (2).");
        fault(edge, 2, 0, "1:a", -1);
        fault(edge, 2, 1, "1:a", 1);
        fault(edge, 2, 2, "1:a", 0);
        fault(edge, 2, 0, "a|b", 0);
        fault(edge, 2, 1, "a|b", -1);
        fault(edge, 2, 2, "a|b", 1);
        fault(edge, 2, 0, "a>=1,=-", 0);
        fault(edge, 2, 1, "a>=1,=-", 1);
        fault(edge, 2, 2, "a>=1,=-", -1);
        Edge no = Edge.of(4, "NONE: none. -2: no such sort.");
        no.refused("3", -2, x -> x.fault(3));
        no.refused("-1", -2, x -> x.fault(-1));
        for (int sort : Edge.FAR) {
            no.refused("far: " + sort, -2, x -> x.fault(sort));
        }
        no.refused("a fault is told", 1, x -> x.fault(1));
        no.refused("none is told", -1, x -> x.fault(0));
    }

    private static void letters() {
        Edge edge = Edge.of(4, "FACTS have letters a .. (so many as the constructor says, 1 .. 9).");
        for (int n = 1; n <= 9; n++) {
            char last = (char) ('a' + n - 1);
            char behind = (char) ('a' + n);
            fault(edge, n, 1, "a", -1);
            fault(edge, n, 1, "" + last, -1);
            fault(edge, n, 1, "" + behind, 0);
            fault(edge, n, 0, "1:" + last, -1);
            fault(edge, n, 0, "1:" + behind, 2);
            fault(edge, n, 1, "1#" + last, -1);
            fault(edge, n, 1, "1#" + behind, 2);
            fault(edge, n, 2, last + ">=1,=-", -1);
            fault(edge, n, 2, behind + ">=1,=-", 0);
            if (n > 1) {
                fault(edge, n, 1, "1#a" + last, -1);
                fault(edge, n, 1, "1#" + last + behind, 3);
            }
        }
        for (int sign : new int[] {'a' - 1, 'A', 'z', 127, 128, 'a' + 128, 255}) {
            fault(edge, 9, 1, "" + (char) sign, 0);
            fault(edge, 9, 2, (char) sign + ">=1,=-", 0);
            fault(edge, 9, 1, "1#a" + (char) sign, 3);
        }
    }

    private static void clauses() {
        Edge edge = Edge.of(4, "CLAUSES with ; between (12 at most)");
        fault(edge, 2, 0, "", 0);
        for (int n = 1; n <= 12; n++) {
            fault(edge, 2, 0, ";1:a".repeat(n).substring(1), -1);
        }
        fault(edge, 2, 0, "1:a 1:a", 4);
        fault(edge, 2, 0, ";1:a", 0);
        fault(edge, 2, 0, "1:a;;1:a", 4);
        Edge more = Edge.of(4, "a thirteenth CLAUSE, NODE is wrong at the ; ahead of it");
        String eleven = "1:a;".repeat(11);
        fault(more, 2, 0, eleven + "1:a", -1);
        fault(more, 2, 0, eleven + "1:a;1:a", 47);
        fault(more, 2, 0, eleven + "1:a;", 47);
        fault(more, 2, 0, eleven + "1:a ", -1);
        fault(more, 2, 0, eleven + "1:a  ; 1:a", 49);
        fault(more, 2, 0, eleven + "1:aub;1:a", 49);
        fault(more, 2, 0, eleven + "1:a;x", 47);
        fault(more, 2, 0, eleven.substring(4) + "1:a;", 44);
        fault(more, 2, 0, eleven.substring(4) + "1:a;1:a", -1);
    }

    private static void outcomes() {
        Edge edge = Edge.of(4, "an OUTCOME (one digit 0 .. 5), : , a CONDITION");
        for (char sign = '0'; sign <= '9'; sign++) {
            fault(edge, 1, 0, sign + ":a", sign <= '5' ? -1 : 0);
            fault(edge, 1, 0, "1:a;" + sign + ":a", sign <= '5' ? -1 : 4);
        }
        fault(edge, 1, 0, "/:a", 0);
        fault(edge, 1, 0, "::a", 0);
        fault(edge, 1, 0, "-:a", 0);
        fault(edge, 1, 0, "10:a", 1);
        fault(edge, 1, 0, "01:a", 1);
        fault(edge, 1, 0, "1;a", 1);
        fault(edge, 1, 0, "1a", 1);
        fault(edge, 1, 0, "1::a", 2);
        fault(edge, 1, 0, "1:", 2);
    }

    private static void unless() {
        Edge edge = Edge.of(4, "perhaps u and a CONDITION (UNLESS)");
        fault(edge, 2, 0, "1:a", -1);
        fault(edge, 2, 0, "1:aub", -1);
        fault(edge, 2, 0, "1:au", 4);
        fault(edge, 2, 0, "1:au;", 4);
        fault(edge, 2, 0, "1:aubua", 5);
        fault(edge, 2, 0, "1:ub", 2);
        fault(edge, 2, 0, "1:(aub)", 4);
        fault(edge, 2, 0, "1:aUb", 3);
        fault(edge, 2, 0, "1:aub;1:bua", -1);
    }

    private static void several() {
        Edge digit = Edge.of(4, "or a digit 1 .. 9, # and FACTS' letters");
        for (char sign = '0'; sign <= '9'; sign++) {
            fault(digit, 2, 1, sign + "#ab", sign >= '1' ? -1 : 0);
            fault(digit, 2, 0, "1:" + sign + "#ab", sign >= '1' ? -1 : 2);
        }
        fault(digit, 2, 1, "/#ab", 0);
        fault(digit, 2, 1, ":#ab", 0);
        fault(digit, 2, 1, "10#ab", 1);
        fault(digit, 2, 1, "1ab", 1);
        fault(digit, 2, 1, "1", 1);
        fault(digit, 2, 1, "1##ab", 2);
        Edge one = Edge.of(4, "(one at least, none twice: so many of these at least)");
        fault(one, 2, 1, "1#", 2);
        fault(one, 2, 1, "1# ", 3);
        fault(one, 2, 1, "1#&a", 2);
        fault(one, 2, 1, "(1#)", 3);
        fault(one, 2, 1, "1#a", -1);
        fault(one, 2, 1, "1#a&a", -1);
        fault(one, 9, 1, "1#abcdefghi", -1);
        Edge twice = Edge.of(4, "a letter that is there already at it");
        fault(twice, 9, 1, "1#aa", 3);
        fault(twice, 9, 1, "1#ab", -1);
        fault(twice, 9, 1, "1#aba", 4);
        fault(twice, 9, 1, "1#abb", 4);
        fault(twice, 9, 1, "1#ab  a", 6);
        fault(twice, 9, 1, "1#abcdefghii", 11);
        fault(twice, 9, 1, "1#abcdefghj", 10);
        fault(twice, 9, 1, "1#ab&1#ab", -1);
        fault(twice, 9, 1, "1#ab|a", -1);
    }

    private static void questionsAreConditions() {
        Edge edge = Edge.of(4, "QUESTIONS (10 at most) are CONDITIONS.");
        fault(edge, 3, 1, "", 0);
        fault(edge, 3, 1, "a", -1);
        fault(edge, 3, 1, "a;", 1);
        fault(edge, 3, 1, "aub", 1);
        fault(edge, 3, 1, "a)", 1);
        fault(edge, 3, 1, "(a", 2);
        fault(edge, 3, 1, "(a)", -1);
        fault(edge, 3, 1, "()", 1);
        fault(edge, 3, 1, "a|", 2);
        fault(edge, 3, 1, "|a", 0);
        fault(edge, 3, 1, "a&", 2);
        fault(edge, 3, 1, "a&&b", 2);
        fault(edge, 3, 1, "a!b", 1);
        fault(edge, 3, 1, "ab", 1);
        fault(edge, 3, 1, "a|b".repeat(2), 3);
        fault(edge, 3, 1, "a&".repeat(79) + "a ", -1);
        fault(edge, 3, 1, "a|".repeat(80), 160);
        fault(edge, 3, 1, "a&b|".repeat(39) + "a|b", -1);
        fault(edge, 3, 1, "!a|".repeat(52) + "!a|b", -1);
        fault(edge, 3, 1, "a|".repeat(79) + "a" + ")", 159);
        CoalForm x = new CoalForm(3);
        Check.put(x, "a&b|".repeat(39) + "a|b");
        for (int k = 0; k < 5; k++) {
            edge.due("told once more the same", x.fault(1), -1);
            edge.due("told once more the same, as another", x.fault(0), 0);
        }
        edge.due("and it is one", x.text(1), 0);
    }

    private static void nodes() {
        Edge edge = Edge.of(4, "NODES with ; between (12 at most, numbered 0 ..)");
        fault(edge, 2, 2, "", 0);
        for (int n = 1; n <= 12; n++) {
            fault(edge, 2, 2, ";a>=1,=-".repeat(n).substring(1), -1);
        }
        fault(edge, 2, 2, "a>=1,=-;", 8);
        fault(edge, 2, 2, "a>=1,=-a>=1,=-", 7);
        fault(edge, 2, 2, "a>=1;=-", 4);
        fault(edge, 2, 2, "a,=1,=-", 1);
        Edge more = Edge.of(4, "a thirteenth CLAUSE, NODE is wrong at the ; ahead of it");
        String eleven = "a>=1,=-;".repeat(11);
        fault(more, 2, 2, eleven + "a>=1,=-", -1);
        fault(more, 2, 2, eleven + "a>=1,=-;a>=1,=-", 95);
        fault(more, 2, 2, eleven + "a>=1,=-;", 95);
        fault(more, 2, 2, eleven + "a>=1,=- ", -1);
        fault(more, 2, 2, eleven + "a>=1,=- ;", 96);
        fault(more, 2, 2, eleven.substring(8) + "a>=1,=-;a>=1,=-", -1);
    }

    private static void targets() {
        Edge edge = Edge.of(4, "TARGET: = and an OUTCOME or - (nothing)");
        for (char sign = '0'; sign <= '9'; sign++) {
            fault(edge, 1, 2, "a>=" + sign + ",=-", sign <= '5' ? -1 : 3);
            fault(edge, 1, 2, "a>=-,=" + sign, sign <= '5' ? -1 : 6);
        }
        fault(edge, 1, 2, "a>=-,=-", -1);
        fault(edge, 1, 2, "a>=/,=-", 3);
        fault(edge, 1, 2, "a>=:,=-", 3);
        fault(edge, 1, 2, "a>=10,=-", 4);
        fault(edge, 1, 2, "a>=--,=-", 4);
        fault(edge, 1, 2, "a>=-1,=-", 4);
        fault(edge, 1, 2, "a>==1,=-", 3);
        fault(edge, 1, 2, "a>-,=-", 2);
        fault(edge, 1, 2, "a>=,=-", 3);
        fault(edge, 1, 2, "a>=-,=", 6);
        fault(edge, 1, 2, "a>/,=-", 2);
        fault(edge, 1, 2, "a>,x", 2);
        fault(edge, 1, 2, "a>=6,x", 3);
        fault(edge, 1, 2, "a>:,=-", 2);
    }

    /** A form of twelve nodes: one has this target if its fact is so (or else not), all others say 0. */
    private static String withTarget(int own, String target, boolean so) {
        String node = so ? "a>" + target + ",=0" : "a>=0," + target;
        return "a>=0,=0;".repeat(own) + node + ";a>=0,=0".repeat(11 - own);
    }

    private static void numbersOfNodes() {
        Edge edge = Edge.of(4, "(one or two digits, higher than its own, 11 at most)");
        Edge last = Edge.of(4, "a number that can't be at its last digit");
        for (int own = 0; own < 12; own++) {
            for (int number = 0; number < 100; number++) {
                boolean may = number > own && number <= 11;
                int at = 8 * own + (number < 10 ? 2 : 3);
                fault(may ? edge : last, 1, 2, withTarget(own, "" + number, true), may ? -1 : at);
                fault(may ? edge : last, 1, 2, withTarget(own, "" + number, false), may ? -1 : at + 3);
            }
        }
        fault(last, 1, 2, "a>0", 2);
        fault(last, 1, 2, "a>0x", 2);
        fault(last, 1, 2, "a>0,x", 2);
        fault(last, 1, 2, "a>12,x", 3);
        fault(last, 1, 2, "a>=0,0x", 5);
        fault(last, 1, 2, "a>12", 3);
        fault(last, 1, 2, "a>11", 4);
        fault(last, 1, 2, "a>", 2);
        fault(edge, 1, 2, withTarget(0, "01", true), -1);
        fault(edge, 1, 2, withTarget(8, "09", true), -1);
        fault(last, 1, 2, withTarget(9, "09", true), 75);
    }

    private static void thirdDigit() {
        Edge edge = Edge.of(4, "(a third digit is wrong itself)");
        fault(edge, 1, 2, withTarget(0, "11", true), -1);
        for (String number : new String[] {"110", "111", "100", "011", "001", "123", "999", "000", "1100"}) {
            fault(edge, 1, 2, withTarget(0, number, true), 4);
            fault(edge, 1, 2, withTarget(0, number, false), 7);
        }
        fault(edge, 1, 2, withTarget(11, "110", true), 92);
        fault(edge, 1, 2, "a>110", 4);
        fault(edge, 1, 2, withTarget(0, "11 0", true), 5);
        fault(edge, 1, 2, withTarget(0, "11/", true), 4);
        fault(edge, 1, 2, withTarget(0, "11:", true), 4);
    }

    private static void nodesThatAreNotThere() {
        Edge edge = Edge.of(4, "if a FORM has a number of a NODE that is not there");
        for (int nodes = 1; nodes < 12; nodes++) {
            String rest = ";b>=0,=0".repeat(nodes - 1);
            String there = "a>=1," + (nodes - 1) + rest;
            String notThere = "a>=1," + nodes + rest;
            if (nodes > 1) {
                fault(edge, 2, 2, there, -1);
            }
            fault(edge, 2, 2, notThere, notThere.length());
            fault(edge, 2, 2, notThere + "  ", notThere.length() + 2);
            fault(edge, 2, 2, notThere + ";b>=0,=0", -1);
            fault(edge, 2, 2, notThere + ";b>=0,", notThere.length() + 6);
            fault(edge, 2, 2, notThere + ";b>=0,x", notThere.length() + 6);
        }
        fault(edge, 2, 2, "a>2,1;b>=0,=0", 13);
        fault(edge, 2, 2, "a>1,2;b>=0,=0", 13);
        fault(edge, 2, 2, "a>1,2;b>=0,=0;b>=0,=0", -1);
        fault(edge, 2, 2, "a>11,=0;b>=0,=0", 15);
        CoalForm x = new CoalForm(2);
        Check.faultOf(x, 2, "a>11,=0");
        edge.due("a number of a text read before is not there", Check.faultOf(x, 2, "a>=1,=0"), -1);
    }

    private static void blanks() {
        Edge edge = Edge.of(4, "Blanks (32) may stand between all these");
        fault(edge, 3, 0, "  1  :  !  (  a  |  b  )  &  2#  a  b  u  c  ;  0  :  b  ", -1);
        fault(edge, 3, 1, " ! ! ( a & b ) | 1# c ", -1);
        fault(edge, 3, 2, "  a  >  1  ,  =  -  ;  b  >  =  5  ,  =  0  ", -1);
        fault(edge, 3, 1, " ".repeat(159) + "a", -1);
        fault(edge, 3, 1, "a" + " ".repeat(159), -1);
        fault(edge, 3, 1, " ".repeat(160), 160);
        for (int sign : new int[] {1, 9, 10, 13, 31, 127, 128, 160, 255}) {
            fault(edge, 3, 0, "1:a" + (char) sign, 3);
            fault(edge, 3, 0, (char) sign + "1:a", 0);
            fault(edge, 3, 1, "a" + (char) sign + "|b", 1);
            fault(edge, 3, 2, "a>=1," + (char) sign + "=-", 5);
        }
        fault(edge, 3, 1, "a" + (char) 33, 1);
        Edge not = Edge.of(4, "not within numbers, nor between a digit and #");
        fault(not, 3, 1, "2#ab", -1);
        fault(not, 3, 1, "2 #ab", 1);
        fault(not, 3, 1, "2# ab", -1);
        fault(not, 3, 1, " 2#ab", -1);
        fault(not, 3, 0, "1:2 #ab", 3);
        fault(not, 3, 2, withTarget(0, "11", true), -1);
        fault(not, 3, 2, withTarget(0, " 11 ", true), -1);
        fault(not, 3, 2, withTarget(0, "1 1", true), 4);
        fault(not, 3, 2, withTarget(0, "1 ", false), -1);
    }

    private static void withinOneAnother() {
        Edge edge = Edge.of(4, "at most six of ( ! within one another");
        Edge seventh = Edge.of(4, "a seventh of ( !");
        for (int signs = 0; signs < 128; signs++) {
            StringBuilder open = new StringBuilder();
            StringBuilder close = new StringBuilder();
            for (int k = 0; k < 7; k++) {
                open.append((signs >> k & 1) != 0 ? '(' : '!');
                close.append(k < 6 && (signs >> k & 1) != 0 ? ")" : "");
            }
            fault(edge, 1, 1, open.substring(0, 6) + "a" + close, -1);
            fault(seventh, 1, 1, open + "a" + close + ")", 6);
            fault(seventh, 1, 1, open.toString(), 6);
        }
        fault(edge, 2, 1, "!!!!!!a|!!!!!!b&!!!!!!1#a", -1);
        fault(edge, 2, 1, "((((((a))))))&((((((b))))))", -1);
        fault(edge, 2, 1, "(((((((a)))))))", 6);
        fault(edge, 2, 1, "((((((a)|(b))))))", -1);
        fault(seventh, 2, 1, "((((((a)|((b)))))))", 10);
        fault(edge, 2, 1, "(!!!!!a&!!!!!b|!!!!!a)", -1);
        fault(seventh, 2, 1, "(!!!!!a&!!!!!!b)", 13);
        fault(edge, 2, 0, "1:!!!!!!au!!!!!!b;1:!!!!!!a", -1);
        fault(seventh, 2, 0, "1:!!!!!!!a", 8);
        fault(seventh, 2, 0, "1:au!!!!!!!b", 10);
        fault(seventh, 2, 0, "1:a;1: ! ! ! ! ! ! !b", 19);
    }

    private static void tooEarly() {
        Edge edge = Edge.of(4, "the first byte at which no such TEXT can go on (the length, if it ends too early,");
        prefixes(edge, 0, "1:!(a)u2#ab;5:c", "1:!(a)", "1:!(a)u2#a", "1:!(a)u2#ab", "1:!(a)u2#ab;5:c");
        prefixes(edge, 1, "!(a&2#bc)|b", "!(a&2#bc)", "!(a&2#bc)|b");
        prefixes(edge, 2, "a>1,=-;b>=5,=0", "a>1,=-;b>=5,=0");
        prefixes(edge, 2, "a>=1,=-;b>=5,=0", "a>=1,=-", "a>=1,=-;b>=5,=0");
    }

    private static void prefixes(Edge edge, int sort, String text, String... whole) {
        for (int n = 0; n <= text.length(); n++) {
            String prefix = text.substring(0, n);
            boolean isWhole = java.util.Arrays.asList(whole).contains(prefix);
            fault(edge, 3, sort, prefix, isWhole ? -1 : n);
            fault(edge, 3, sort, prefix + "$", n);
        }
    }

    // ---- promise 5 ----

    private static void texts() {
        Edge edge = Edge.of(5, "The TAPE (empty then; if refused it stays) is one of these: its number.");
        CoalForm x = State.filled();
        edge.due("a law behind three", x.text(0), 3);
        edge.due("empty then", x.count(5), 0);
        Check.put(x, "a>=1,=-");
        edge.due("a form behind two", x.text(2), 2);
        edge.due("empty then", x.count(5), 0);
        Check.put(x, "a");
        edge.due("a question behind three", x.text(1), 3);
        edge.due("empty then", x.count(5), 0);
        edge.due("nothing is no law", x.text(0), -1);
        edge.due("nothing is no question", x.text(1), -1);
        edge.due("nothing is no form", x.text(2), -1);
        edge.due("four laws, questions", x.count(0) * 10 + x.count(1), 44);
        edge.due("three forms", x.count(2), 3);
        Edge no = Edge.of(5, "NONE: a FAULT, no such sort, there are so many.");
        no.refused("a law is no question", -1, y -> y.text(1));
        no.refused("a law is no form", -1, y -> y.text(2));
        no.refused("sort 3", -1, y -> y.text(3));
        no.refused("sort -1", -1, y -> y.text(-1));
        for (int sort : Edge.FAR) {
            no.refused("far: " + sort, -1, y -> y.text(sort));
        }
        no.refusedAfter("sort 3, a form's text", -1, y -> Check.put(y, "a>=1,=0"), y -> y.text(3));
        no.refusedAfter("sort -1, a question's text", -1, y -> Check.put(y, "a|b"), y -> y.text(-1));
        no.refusedAfter("a law that ends too early", -1, y -> y.end(4), y -> y.text(0));
        no.refusedAfter("a form of which a node is not there", -1, y -> Check.put(y, "a>1,=0"), y -> y.text(2));
        no.refusedAfter("a form's text is no law", -1, y -> Check.put(y, "a>=1,=0"), y -> y.text(0));
    }

    private static void soMany() {
        Edge laws = Edge.of(5, "LAWS (6 at most)");
        Edge questions = Edge.of(5, "QUESTIONS (10 at most)");
        Edge forms = Edge.of(5, "FORMS (6 at most)");
        CoalForm x = new CoalForm(2);
        for (int k = 0; k < 6; k++) {
            laws.due("another", Check.law(x, k + ":a"), k);
            forms.due("another", Check.form(x, "a>=" + k + ",=-"), k);
        }
        for (int k = 0; k < 10; k++) {
            questions.due("another", Check.question(x, k % 2 == 0 ? "a" : "b"), k);
        }
        for (int k = 0; k < 6; k++) {
            laws.due("each says its own", Edge.says(x, k, 1), k);
            forms.due("each says its own", Edge.leads(x, k, 1), k);
        }
        for (int k = 0; k < 10; k++) {
            questions.due("each asks its own", x.tells(k, 0), k % 2 == 0 ? 4 : 2);
        }
        laws.due("a seventh", Check.law(x, "5:b"), -1);
        forms.due("a seventh", Check.form(x, "b>=5,=5"), -1);
        questions.due("an eleventh", Check.question(x, "a&b"), -1);
        laws.refusedAfter("a seventh, behind other things", -1, EdgeTextTests::fillLaws, y -> y.text(0));
        forms.refusedAfter("a seventh, behind other things", -1, EdgeTextTests::fillForms, y -> y.text(2));
        questions.refusedAfter("an eleventh, behind other things", -1, EdgeTextTests::fillQuestions, y -> y.text(1));
        CoalForm y = new CoalForm(2);
        fillLaws(y);
        laws.due("six laws are no six questions", Check.question(y, "a"), 0);
        laws.due("nor forms", Check.form(y, "a>=1,=-"), 0);
    }

    private static void fillLaws(CoalForm x) {
        for (int k = x.count(0); k < 6; k++) {
            Check.law(x, k + ":b");
        }
        Check.put(x, "5:b");
    }

    private static void fillForms(CoalForm x) {
        for (int k = x.count(2); k < 6; k++) {
            Check.form(x, "b>=" + k + ",=-");
        }
        Check.put(x, "b>=5,=5");
    }

    private static void fillQuestions(CoalForm x) {
        for (int k = x.count(1); k < 10; k++) {
            Check.question(x, "b");
        }
        Check.put(x, "a&b&c");
    }

    // ---- promise 44 ----

    private static void counts() {
        Edge edge = Edge.of(44, "0 LAWS, 1 QUESTIONS, 2 FORMS, 3 SORTS, 4 FACTS, 5 bytes of the TAPE, 6 RULINGS.");
        int[] first = {0, 0, 0, 0, 9, 0, 0};
        int[] full = {6, 10, 6, 4, 9, 160, 20};
        CoalForm x = new CoalForm(9);
        for (int what = 0; what < 7; what++) {
            edge.due("at first, " + what, x.count(what), first[what]);
        }
        fillLaws(x);
        fillForms(x);
        fillQuestions(x);
        for (int k = 0; k < 21; k++) {
            x.sort(1);
            x.ruling(k, 1);
        }
        Check.put(x, " ".repeat(160));
        for (int what = 0; what < 7; what++) {
            edge.due("full, " + what, x.count(what), full[what]);
        }
        int[] some = {3, 3, 2, 2, 3, 5, 2};
        for (int what = 0; what < 7; what++) {
            edge.due("some, " + what, State.filled().count(what), some[what]);
        }
        Edge no = Edge.of(44, "NONE for others.");
        no.refused("7", -1, y -> y.count(7));
        no.refused("-1", -1, y -> y.count(-1));
        no.refused("-2", -1, y -> y.count(-2));
        for (int what : Edge.FAR) {
            no.refused("far: " + what, -1, y -> y.count(what));
        }
    }
}
