import java.math.BigInteger;

/** The boundaries that promises 18 to 24, 31 and 42 name: settings, sorts, shares, asking out, people. */
final class EdgePeopleTests {
    /** What it says hangs on each of nine facts, on each case. */
    private static final String NINE = "1:9#abcdefghi;0:8#abcdefghi;1:7#abcdefghi;0:6#abcdefghi;1:5#abcdefghi;"
            + "0:4#abcdefghi;1:3#abcdefghi;0:2#abcdefghi;1:1#abcdefghi";

    private EdgePeopleTests() {
    }

    static void all() {
        minutesOfFacts();
        minutesOfQuestions();
        barred();
        wrong();
        noSuchWhat();
        sorts();
        chances();
        shares();
        known();
        askedOut();
        cannotBeAskedOut();
        theMost();
        bestOfSeveral();
        noSuchOnes();
        inAnyOrder();
        changedBetween();
        people();
        below();
        goingRound();
        likely();
    }

    private static CoalForm of(int facts, String... laws) {
        CoalForm x = new CoalForm(facts);
        for (String law : laws) {
            Check.due("a law is taken: " + law, Check.law(x, law) >= 0, true);
        }
        return x;
    }

    // ---- promise 18 ----

    private static void minutesOfFacts() {
        Edge edge = Edge.of(18, "MINUTES of a FACT (1 .. 99; 1 at first).");
        CoalForm x = of(9, "1:i", "1:a");
        for (int v = 1; v <= 99; v++) {
            edge.due("may be " + v, x.set(0, 8, v), true);
            edge.due("are " + v, x.worst(0, -1, 0, 0), v);
        }
        edge.due("of the others 1 still", x.worst(1, -1, 0, 0), 1);
        for (int v : new int[] {0, 100, -1, 101, 128 + 1, 256 + 5}) {
            edge.refused("out of bounds: " + v, 0, y -> Edge.yes(y.set(0, 0, v)));
        }
        for (int v : Edge.FAR) {
            edge.refused("far: " + v, 0, y -> Edge.yes(y.set(0, 0, v)));
            edge.refused("no such fact, far: " + v, 0, y -> Edge.yes(y.set(0, v, 5)));
        }
        edge.refused("no fact behind the last", 0, y -> Edge.yes(y.set(0, 3, 5)));
        edge.refused("no fact ahead of the first", 0, y -> Edge.yes(y.set(0, -1, 5)));
        edge.refused("the same minutes as before", 1, y -> Edge.yes(y.set(0, 0, 3)));
        edge.due("there are nine", x.set(0, 9, 5), false);
    }

    private static void minutesOfQuestions() {
        Edge edge = Edge.of(18, "QUESTIONS (each with MINUTES; 1 at first)");
        CoalForm x = of(1, "1:a");
        Edge no = Edge.of(18, "False: no such ones, out of bounds.");
        no.due("no question is there yet", x.set(1, 0, 1), false);
        for (int k = 0; k < 10; k++) {
            no.due("question " + k + " is not there yet", x.set(1, k, 1), false);
            Check.question(x, "a");
            edge.due("question " + k + " may take 99", x.set(1, k, 99), true);
            edge.due("question " + k + " may take 2", x.set(1, k, 2), true);
        }
        no.due("ten are the most", x.set(1, 10, 1), false);
        edge.due("all take 2: the lowest", x.page(0), 1);
        edge.due("one takes 1", x.set(1, 9, 1), true);
        edge.due("the last of them", x.page(0), 512);
        for (int v : new int[] {0, 100, -1}) {
            no.refused("out of bounds: " + v, 0, y -> Edge.yes(y.set(1, 0, v)));
        }
        for (int v : Edge.FAR) {
            no.refused("far: " + v, 0, y -> Edge.yes(y.set(1, 0, v)));
            no.refused("no such question, far: " + v, 0, y -> Edge.yes(y.set(1, v, 5)));
        }
        no.refused("no question behind the last", 0, y -> Edge.yes(y.set(1, 3, 5)));
        no.refused("no question ahead of the first", 0, y -> Edge.yes(y.set(1, -1, 5)));
    }

    private static void barred() {
        Edge edge = Edge.of(18, "whether a FACT is BARRED (2; 0, 1)");
        CoalForm x = of(9, "1:i", "1:a");
        edge.due("1", x.set(2, 8, 1), true);
        edge.due("it can't be asked", x.worst(0, -1, 0, 0), -1);
        edge.due("others can", x.worst(1, -1, 0, 0), 1);
        edge.due("1 once more", x.set(2, 8, 1), true);
        edge.due("it can't be asked yet", x.worst(0, -1, 0, 0), -1);
        edge.due("0", x.set(2, 8, 0), true);
        edge.due("it can be asked", x.worst(0, -1, 0, 0), 1);
        edge.due("0 once more", x.set(2, 8, 0), true);
        edge.due("it can be asked yet", x.worst(0, -1, 0, 0), 1);
        for (int v : new int[] {2, 3, -1}) {
            edge.refused("out of bounds: " + v, 0, y -> Edge.yes(y.set(2, 0, v)));
        }
        for (int v : Edge.FAR) {
            edge.refused("far: " + v, 0, y -> Edge.yes(y.set(2, 0, v)));
            edge.refused("no such fact, far: " + v, 0, y -> Edge.yes(y.set(2, v, 1)));
        }
        edge.refused("no fact behind the last", 0, y -> Edge.yes(y.set(2, 3, 1)));
        edge.refused("no fact ahead of the first", 0, y -> Edge.yes(y.set(2, -1, 1)));
    }

    private static void wrong() {
        Edge edge = Edge.of(18, "WRONG answers: of a FACT by a chance (0 .. 10 of ten; 0 at first)");
        CoalForm x = of(9, "1:i;0:!i");
        Check.form(x, "i>=1,=0");
        for (int v = 0; v <= 10; v++) {
            edge.due("may be " + v, x.set(3, 8, v), true);
            edge.due("is " + v, x.off(0, 0, 511), 100000000000L * v);
        }
        for (int v : new int[] {11, -1}) {
            edge.refused("out of bounds: " + v, 0, y -> Edge.yes(y.set(3, 0, v)));
        }
        for (int v : Edge.FAR) {
            edge.refused("far: " + v, 0, y -> Edge.yes(y.set(3, 0, v)));
            edge.refused("no such fact, far: " + v, 0, y -> Edge.yes(y.set(3, v, 5)));
        }
        edge.refused("no fact behind the last", 0, y -> Edge.yes(y.set(3, 3, 5)));
        edge.refused("no fact ahead of the first", 0, y -> Edge.yes(y.set(3, -1, 5)));
    }

    private static void noSuchWhat() {
        Edge edge = Edge.of(18, "MINUTES of a FACT (what 0), of a QUESTION (1), whether a FACT is BARRED (2; 0, 1), answered WRONG (3).");
        edge.refused("4", 0, y -> Edge.yes(y.set(4, 0, 1)));
        edge.refused("-1", 0, y -> Edge.yes(y.set(-1, 0, 1)));
        for (int what : Edge.FAR) {
            edge.refused("far: " + what, 0, y -> Edge.yes(y.set(what, 0, 1)));
        }
    }

    // ---- promise 19 ----

    private static void sorts() {
        Edge edge = Edge.of(19, "SORTS of people (4 at most): a weight (1 .. 9)");
        for (int weight = 1; weight <= 9; weight++) {
            CoalForm x = new CoalForm(1);
            edge.due("a weight of " + weight, x.sort(weight), 0);
            edge.due("it weighs " + weight, x.share(0, 0), 10 * weight);
        }
        CoalForm x = new CoalForm(1);
        for (int k = 0; k < 4; k++) {
            edge.due("another", x.sort(9), k);
            edge.due("so many weigh", x.share(0, 0), 90 * (k + 1));
        }
        Edge no = Edge.of(19, "A SORT: its number. NONE: out of bounds, there are four.");
        no.due("a fifth", x.sort(9), -1);
        no.due("a fifth that is lighter", x.sort(1), -1);
        no.due("the four weigh as much as before", x.share(0, 0), 360);
        no.refusedAfter("a fifth, behind other things", -1, EdgePeopleTests::twoSortsMore, y -> y.sort(5));
        for (int weight : new int[] {0, 10, -1, 11}) {
            no.refused("out of bounds: " + weight, -1, y -> y.sort(weight));
        }
        for (int weight : Edge.FAR) {
            no.refused("far: " + weight, -1, y -> y.sort(weight));
        }
    }

    private static void twoSortsMore(CoalForm x) {
        x.sort(1);
        x.sort(4);
    }

    // ---- promise 20 ----

    private static void chances() {
        Edge edge = Edge.of(20, "the CHANCE that it is so (0 .. 10 of ten; 5 at first)");
        CoalForm x = new CoalForm(9);
        for (int k = 0; k < 4; k++) {
            edge.due("sort " + k + " is not there yet", x.chance(k, 8, 5), false);
            x.sort(1);
            edge.due("sort " + k + " is there", x.chance(k, 8, 5), true);
        }
        edge.due("four sorts are the most", x.chance(4, 8, 5), false);
        for (int v = 0; v <= 10; v++) {
            edge.due("may be " + v, x.chance(3, 8, v), true);
            edge.due("is so by " + v, x.share(256, 256), 100000000L * (15 + v));
            edge.due("is not so by the rest", x.share(256, 0), 100000000L * (25 - v));
        }
        edge.due("there are nine facts", x.chance(3, 9, 5), false);
        Edge no = Edge.of(20, "A CHANCE. False: no such ones, out of bounds.");
        for (int v : new int[] {11, -1, 100}) {
            no.refused("out of bounds: " + v, 0, y -> Edge.yes(y.chance(0, 0, v)));
        }
        no.refused("no sort behind the last", 0, y -> Edge.yes(y.chance(2, 0, 1)));
        no.refused("no sort ahead of the first", 0, y -> Edge.yes(y.chance(-1, 0, 1)));
        no.refused("no fact behind the last", 0, y -> Edge.yes(y.chance(0, 3, 1)));
        no.refused("no fact ahead of the first", 0, y -> Edge.yes(y.chance(0, -1, 1)));
        no.refused("the same chance as before", 1, y -> Edge.yes(y.chance(0, 0, 8)));
        for (int far : Edge.FAR) {
            no.refused("no such sort, far: " + far, 0, y -> Edge.yes(y.chance(far, 0, 1)));
            no.refused("no such fact, far: " + far, 0, y -> Edge.yes(y.chance(0, far, 1)));
            no.refused("out of bounds, far: " + far, 0, y -> Edge.yes(y.chance(0, 0, far)));
        }
    }

    // ---- promise 21 ----

    private static void shares() {
        Edge edge = Edge.of(21, "for each KNOWN FACT, its CHANCE (10 less that, if it is not so), and 10 for each other one");
        CoalForm x = new CoalForm(9);
        edge.due("no sorts, nothing known", x.share(0, 0), 0);
        edge.due("no sorts, all known", x.share(511, 511), 0);
        x.sort(9);
        edge.due("one of the heaviest", x.share(0, 0), 9000000000L);
        x.chance(0, 0, 0);
        x.chance(0, 8, 10);
        edge.due("never so", x.share(1, 1), 0);
        edge.due("never so, and it is not", x.share(1, 0), 9000000000L);
        edge.due("always so", x.share(256, 256), 9000000000L);
        edge.due("always so, and it is not", x.share(256, 0), 0);
        edge.due("both as they must be", x.share(257, 256), 9000000000L);
        edge.due("all known", x.share(511, 256 + 254), 9L * 100 * 78125);
        for (int k = 1; k < 4; k++) {
            x.sort(9);
        }
        edge.due("four of the heaviest, more than 32 bits", x.share(0, 0), 36000000000L);
    }

    private static void known() {
        Edge edge = Edge.of(21, "SHARE. NONE: no such ones.");
        edge.refused("nothing known", 5000, y -> y.share(0, 0));
        edge.refused("all known, all so", 400 + 75, y -> y.share(7, 7));
        edge.refused("more known than there are", -1, y -> y.share(8, 0));
        edge.refused("less than none", -1, y -> y.share(-1, 0));
        edge.refused("so, but not known", -1, y -> y.share(3, 4));
        edge.refused("one more so than is known", -1, y -> y.share(3, 7));
        edge.refused("so beyond all facts", -1, y -> y.share(7, 8));
        edge.refused("so below 0", -1, y -> y.share(7, -1));
        for (int far : Edge.FAR) {
            edge.refused("known far: " + far, -1, y -> y.share(far, 0));
            edge.refused("so far: " + far, -1, y -> y.share(7, far));
        }
    }

    // ---- promises 22 to 24 ----

    private static void out(Edge edge, String what, CoalForm x, int[] asked, long mean, int worst, int best) {
        edge.due(what + ", mean", x.mean(asked[0], asked[1], asked[2], asked[3]), mean);
        edge.due(what + ", worst", x.worst(asked[0], asked[1], asked[2], asked[3]), worst);
        edge.due(what + ", best by mean", x.best(asked[0], asked[1], asked[2], asked[3], 0), best);
        edge.due(what + ", best by worst", x.best(asked[0], asked[1], asked[2], asked[3], 1), best);
    }

    private static void askedOut() {
        Edge edge = Edge.of(22, "as long as it is not SURE, one FACT more is asked");
        CoalForm x = of(3, "1:a|!a", "1:c", "1:a&b", "1:a&!a");
        x.sort(1);
        out(edge, "sure of one thing", x, new int[] {0, -1, 0, 0}, 0, 0, -1);
        out(edge, "sure of nothing", x, new int[] {3, -1, 0, 0}, 0, 0, -1);
        out(edge, "not sure by all but one", x, new int[] {1, -1, 3, 3}, 250, 1, 2);
        out(edge, "sure by the last", x, new int[] {1, -1, 4, 4}, 0, 0, -1);
        out(edge, "all are known", x, new int[] {1, -1, 7, 0}, 0, 0, -1);
        out(edge, "sure, as one is not so", x, new int[] {2, -1, 1, 0}, 0, 0, -1);
        out(edge, "not sure, as one is so", x, new int[] {2, -1, 1, 1}, 500, 1, 1);
        out(edge, "one of two is sure", x, new int[] {0, 1, 0, 0}, 1000, 1, 2);
        out(edge, "the other of two is sure", x, new int[] {1, 3, 0, 0}, 1000, 1, 2);
        out(edge, "both are sure", x, new int[] {0, 3, 0, 0}, 0, 0, -1);
        out(edge, "a law and itself", x, new int[] {1, 1, 0, 0}, 1000, 1, 2);
        out(edge, "neither is sure", x, new int[] {1, 2, 0, 0}, 2500, 3, 0);
        CoalForm nobody = of(1, "1:a");
        out(edge, "no sorts", nobody, new int[] {0, -1, 0, 0}, 0, 1, 0);
    }

    private static void cannotBeAskedOut() {
        Edge edge = Edge.of(22, "None, if it can't be asked out.");
        CoalForm x = of(3, "1:a&b|!a&c", "1:b");
        x.sort(1);
        out(edge, "none is barred", x, new int[] {0, -1, 0, 0}, 2000, 2, 0);
        x.set(2, 2, 1);
        out(edge, "c is barred", x, new int[] {0, -1, 0, 0}, -1, -1, -1);
        out(edge, "c is barred, but a is so", x, new int[] {0, -1, 1, 1}, 500, 1, 1);
        out(edge, "c is barred, and a is not so", x, new int[] {0, -1, 1, 0}, -1, -1, -1);
        out(edge, "c is barred, but known", x, new int[] {0, -1, 4, 4}, 750, 2, 0);
        out(edge, "c is barred, and known not to be so", x, new int[] {0, -1, 4, 0}, 750, 2, 0);
        out(edge, "another law does not want c", x, new int[] {1, -1, 0, 0}, 1000, 1, 1);
        out(edge, "one of two can't be", x, new int[] {1, 0, 0, 0}, -1, -1, -1);
        x.set(2, 0, 1);
        x.set(2, 1, 1);
        out(edge, "all are barred", x, new int[] {1, -1, 0, 0}, -1, -1, -1);
        out(edge, "all are barred, but it is sure", x, new int[] {1, -1, 2, 0}, 0, 0, -1);
        x.set(2, 1, 0);
        out(edge, "all but the one", x, new int[] {1, -1, 0, 0}, 1000, 1, 1);
        x.set(2, 2, 0);
        out(edge, "by c and b, though a alone is barred", x, new int[] {0, -1, 0, 0}, -1, -1, -1);
        out(edge, "as both are so", x, new int[] {0, -1, 6, 6}, 0, 0, -1);
    }

    private static void theMost() {
        Edge mean = Edge.of(22, "the least that SHARE times MINUTES of all askings can come to together");
        Edge worst = Edge.of(23, "WORST: the least that MINUTES can come to in the worst CASE (of all CASES that agree, whatever their CHANCE)");
        Edge best = Edge.of(24, "of those that lead to that the lowest FACT");
        CoalForm x = of(9, NINE, "1:i");
        for (int k = 0; k < 4; k++) {
            x.sort(9);
        }
        mean.due("nine facts of a minute", x.mean(0, -1, 0, 0), 36000000000L * 9);
        worst.due("nine facts of a minute", x.worst(0, -1, 0, 0), 9);
        for (int f = 0; f < 9; f++) {
            x.set(0, f, 99);
        }
        mean.due("nine facts of 99 minutes", x.mean(0, -1, 0, 0), 36000000000L * 891);
        worst.due("nine facts of 99 minutes", x.worst(0, -1, 0, 0), 891);
        mean.due("two laws: no more than both", x.mean(0, 1, 0, 0), 36000000000L * 891);
        worst.due("two laws: no more than both", x.worst(1, 0, 0, 0), 891);
        best.due("all nine, one after another", x.best(0, -1, 0, 0, 0), 0);
        best.due("all nine, the worst", x.best(0, -1, 0, 0, 1), 0);
        best.due("the last is left", x.best(0, -1, 255, 0, 0), 8);
        best.due("the last alone counts", x.best(1, -1, 0, 0, 1), 8);
        for (int k = 0; k < 4; k++) {
            x.chance(k, 8, 0);
        }
        worst.due("a case that nobody has", x.worst(0, -1, 256, 256), 792);
        mean.due("a case that nobody has", x.mean(0, -1, 256, 256), 0);
        CoalForm one = of(1, "1:a");
        one.sort(1);
        mean.due("one fact", one.mean(0, -1, 0, 0), 10);
        worst.due("one fact", one.worst(0, -1, 0, 0), 1);
    }

    private static void bestOfSeveral() {
        Edge edge = Edge.of(24, "BEST to ask next by MEAN, by WORST: of those that lead to that the lowest FACT.");
        CoalForm x = of(3, "1:b&c", "1:a&b&c|!b&!c");
        x.sort(1);
        x.sort(1);
        edge.due("two that are alike", x.best(0, -1, 0, 0, 0), 1);
        edge.due("two that are alike, in the worst", x.best(0, -1, 0, 0, 1), 1);
        x.chance(0, 2, 4);
        edge.due("c is rarer", x.best(0, -1, 0, 0, 0), 2);
        edge.due("in the worst they are alike yet", x.best(0, -1, 0, 0, 1), 1);
        x.chance(0, 2, 5);
        x.set(0, 1, 2);
        edge.due("b is dearer", x.best(0, -1, 0, 0, 0), 2);
        edge.due("in the worst both are asked", x.best(0, -1, 0, 0, 1), 1);
        x.set(2, 1, 1);
        edge.due("b is barred", x.best(0, -1, 0, 0, 1), -1);
        edge.due("b is known: c", x.best(0, -1, 2, 2, 1), 2);
        edge.due("what is known is not asked", x.best(0, -1, 6, 2, 0), -1);
        Edge what = Edge.of(24, "BEST to ask next by MEAN (0), by WORST (1).");
        what.refused("0", 1, y -> y.best(0, -1, 0, 0, 0));
        what.refused("1", 0, y -> y.best(0, -1, 0, 0, 1));
        what.refused("2", -1, y -> y.best(0, -1, 0, 0, 2));
        what.refused("-1", -1, y -> y.best(0, -1, 0, 0, -1));
        for (int far : Edge.FAR) {
            what.refused("far: " + far, -1, y -> y.best(0, -1, 0, 0, far));
        }
    }

    private static void nowhere(Edge edge, String what, int law, int other, int known, int so) {
        edge.refused(what + ", mean", -1, y -> y.mean(law, other, known, so));
        edge.refused(what + ", worst", -1, y -> y.worst(law, other, known, so));
        edge.refused(what + ", best by mean", -1, y -> y.best(law, other, known, so, 0));
        edge.refused(what + ", best by worst", -1, y -> y.best(law, other, known, so, 1));
    }

    private static void noSuchOnes() {
        Edge mean = Edge.of(22, "MEAN for a LAW and another one (NONE: alone). NONE: it can't be asked out, no such ones.");
        Edge.of(23, "WORST likewise.");
        Edge.of(24, "NONE: it is SURE, it can't be asked out, no such ones.");
        mean.refused("the last law and the first", 6, y -> y.worst(2, 0, 0, 0));
        mean.refused("the last law alone", 6, y -> y.worst(2, -1, 0, 0));
        nowhere(mean, "a law behind the last", 3, -1, 0, 0);
        nowhere(mean, "a law ahead of the first", -1, -1, 0, 0);
        nowhere(mean, "no law, but another one", -1, 0, 0, 0);
        nowhere(mean, "another one behind the last", 0, 3, 0, 0);
        nowhere(mean, "another one ahead of none", 0, -2, 0, 0);
        nowhere(mean, "more known than there are", 0, -1, 8, 0);
        nowhere(mean, "less known than nothing", 0, -1, -1, 0);
        nowhere(mean, "so, but not known", 0, -1, 1, 2);
        nowhere(mean, "one more so than is known", 0, -1, 1, 3);
        nowhere(mean, "so below 0", 0, -1, 1, -1);
        for (int far : Edge.FAR) {
            nowhere(mean, "a law far: " + far, far, -1, 0, 0);
            nowhere(mean, "another one far: " + far, 0, far, 0, 0);
            nowhere(mean, "known far: " + far, 0, -1, far, 0);
            nowhere(mean, "so far: " + far, 0, -1, 1, far);
        }
    }

    /** What was asked before, and of what was known, changes no answer. */
    private static void inAnyOrder() {
        Edge edge = Edge.of(22, "To ask out a LAW (or two together: what both say) from what is KNOWN");
        CoalForm x = State.filled();
        for (int turn = 0; turn < 4; turn++) {
            for (int k = 0; k < 27; k++) {
                int place = turn == 0 ? 26 - k : turn == 1 ? k : turn == 2 ? k * 10 % 27 : k * 7 % 27;
                int known = bits(place, 1) | bits(place, 2);
                int so = bits(place, 2);
                CoalForm fresh = State.filled();
                int law = turn % 3;
                int other = turn == 2 ? 0 : -1;
                edge.due("mean at " + known + ", " + so, x.mean(law, other, known, so), fresh.mean(law, other, known, so));
                edge.due("best at " + known + ", " + so, x.best(law, other, known, so, k % 2),
                        State.filled().best(law, other, known, so, k % 2));
                edge.due("worst at " + known + ", " + so, x.worst(law, other, known, so),
                        State.filled().worst(law, other, known, so));
            }
        }
    }

    /** The facts of which a number to the base of three has this digit. */
    private static int bits(int place, int digit) {
        return (place % 3 == digit ? 1 : 0) | (place / 3 % 3 == digit ? 2 : 0) | (place / 9 % 3 == digit ? 4 : 0);
    }

    private static void changedBetween() {
        Edge edge = Edge.of(22, "SHARE times MINUTES of all askings");
        CoalForm x = of(2, "1:a", "1:b");
        edge.due("no sorts", x.mean(0, -1, 0, 0), 0);
        x.sort(1);
        edge.due("a sort", x.mean(0, -1, 0, 0), 100);
        x.sort(2);
        edge.due("another sort", x.mean(0, -1, 0, 0), 300);
        x.chance(1, 1, 0);
        edge.due("b is so", x.mean(0, -1, 2, 2), 50);
        x.chance(1, 1, 10);
        edge.due("b is so more often", x.mean(0, -1, 2, 2), 250);
        x.set(0, 0, 2);
        edge.due("more minutes", x.mean(0, -1, 2, 2), 500);
        x.set(2, 0, 1);
        edge.due("barred", x.mean(0, -1, 2, 2), -1);
        edge.due("another law", x.mean(1, -1, 2, 2), 0);
        edge.due("both", x.mean(1, 0, 2, 2), -1);
    }

    // ---- promise 31 ----

    private static void people() {
        Edge edge = Edge.of(31, "One of the PEOPLE: the CASE (what 0), the SORT (1). NONE: no SORTS, no such what.");
        CoalForm x = new CoalForm(2);
        edge.due("no sorts: no case", x.person(1, 0), -1);
        edge.due("no sorts: no sort", x.person(1, 1), -1);
        x.sort(1);
        x.chance(0, 0, 10);
        x.chance(0, 1, 10);
        edge.due("a sort: a case", x.person(1, 0), 3);
        edge.due("a sort: it", x.person(1, 1), 0);
        edge.refused("what 0", due(State.filled(), 9, false), y -> y.person(9, 0));
        edge.refused("what 1", due(State.filled(), 9, true), y -> y.person(9, 1));
        edge.refused("what 2", -1, y -> y.person(9, 2));
        edge.refused("what -1", -1, y -> y.person(9, -1));
        for (int what : Edge.FAR) {
            edge.refused("far: " + what, -1, y -> y.person(9, what));
        }
    }

    /** What State.filled's two sorts, of weights 2 and 3, make of a seed, worked out with numbers of any size. */
    private static int due(CoalForm x, long seed, boolean sort) {
        BigInteger[] at = {BigInteger.valueOf(seed)};
        int drawn = draw(at, 5);
        int[] chances = drawn < 2 ? new int[] {8, 5, 5} : new int[] {5, 5, 1};
        int cases = 0;
        for (int f = 0; f < x.count(4); f++) {
            cases |= draw(at, 10) < chances[f] ? 1 << f : 0;
        }
        return sort ? drawn < 2 ? 0 : 1 : cases;
    }

    private static int draw(BigInteger[] x, int n) {
        BigInteger round = BigInteger.ONE.shiftLeft(64);
        x[0] = x[0].multiply(new BigInteger("6364136223846793005")).add(new BigInteger("1442695040888963407")).mod(round);
        return x[0].shiftRight(33).mod(BigInteger.valueOf(n)).intValue();
    }

    private static void below() {
        Edge edge = Edge.of(31, "by a draw of 10: it is so, if that is below its CHANCE");
        for (long seed = -5; seed < 5; seed++) {
            BigInteger[] at = {BigInteger.valueOf(seed)};
            draw(at, 1);
            int drawn = draw(at, 10);
            CoalForm x = new CoalForm(1);
            x.sort(1);
            for (int chance = 0; chance <= 10; chance++) {
                x.chance(0, 0, chance);
                edge.due("seed " + seed + ", chance " + chance, x.person(seed, 0), drawn < chance ? 1 : 0);
            }
        }
        Edge sorts = Edge.of(31, "First the SORT by a draw of all weights together (SORTS by numbers)");
        CoalForm x = new CoalForm(1);
        int[] weights = {1, 9, 2, 1};
        for (int weight : weights) {
            x.sort(weight);
        }
        boolean[] seen = new boolean[13];
        for (long seed = 0; seed < 100; seed++) {
            int drawn = draw(new BigInteger[] {BigInteger.valueOf(seed)}, 13);
            seen[drawn] = true;
            sorts.due("draw " + drawn, x.person(seed, 1), drawn < 1 ? 0 : drawn < 10 ? 1 : drawn < 12 ? 2 : 3);
        }
        for (int drawn = 0; drawn < 13; drawn++) {
            sorts.due("draw " + drawn + " was among them", seen[drawn], true);
        }
    }

    private static void goingRound() {
        Edge edge = Edge.of(31, "(64 bits, going round); a draw of n: x shifted right by 33, without sign, modulo n");
        long[] seeds = {0, 1, -1, 2, Long.MAX_VALUE, Long.MIN_VALUE, Long.MAX_VALUE - 1, Long.MIN_VALUE + 1, 1L << 32,
            (1L << 32) - 1, 1L << 33, 1L << 62, -1L << 62, 0xffffffffL << 31};
        for (long seed : seeds) {
            CoalForm x = State.filled();
            edge.due("the case of " + seed, x.person(seed, 0), due(x, seed, false));
            edge.due("the sort of " + seed, x.person(seed, 1), due(x, seed, true));
        }
    }

    // ---- promise 42 ----

    private static void likely() {
        Edge edge = Edge.of(42, "LIKELY by all SORTS (sort NONE), by one. NONE: no such ones.");
        CoalForm x = of(9, "0:i;5:!i", "3:a&!a");
        edge.due("no sorts: nobody", x.likely(0, 0, -1), 0);
        for (int k = 0; k < 4; k++) {
            edge.due("sort " + k + " is not there yet", x.likely(0, 0, k), -1);
            x.sort(9);
            edge.due("sort " + k + " is there", x.likely(0, 0, k), 4500000000L);
            edge.due("all sorts", x.likely(0, 5, -1), 4500000000L * (k + 1));
        }
        edge.due("four are the most", x.likely(0, 0, 4), -1);
        edge.due("nothing on all", x.likely(1, -1, -1), 36000000000L);
        edge.due("nothing on none", x.likely(0, -1, -1), 0);
        x.chance(3, 8, 0);
        edge.due("one sort never", x.likely(0, 0, 3), 0);
        edge.due("that sort always", x.likely(0, 5, 3), 9000000000L);
        Edge of = Edge.of(42, "LIKELY of an OUTCOME (or nothing)");
        of.refused("0", 0, y -> y.likely(0, 0, 0));
        of.refused("5", 0, y -> y.likely(0, 5, 0));
        of.refused("6", -1, y -> y.likely(0, 6, 0));
        of.refused("nothing", 100 + 400 + 100 + 400, y -> y.likely(0, -1, 0));
        of.refused("less than nothing", -1, y -> y.likely(0, -2, 0));
        edge.refused("all sorts", 5000, y -> y.likely(0, -1, -1) + y.likely(0, 1, -1) + y.likely(0, 2, -1));
        edge.refused("the last sort, the last law", 0, y -> y.likely(2, 5, 1));
        edge.refused("a sort behind the last", -1, y -> y.likely(0, 1, 2));
        edge.refused("a sort ahead of all", -1, y -> y.likely(0, 1, -2));
        edge.refused("a law behind the last", -1, y -> y.likely(3, 1, 0));
        edge.refused("a law ahead of the first", -1, y -> y.likely(-1, 1, 0));
        for (int far : Edge.FAR) {
            edge.refused("a law far: " + far, -1, y -> y.likely(far, 1, 0));
            edge.refused("an outcome far: " + far, -1, y -> y.likely(0, far, 0));
            edge.refused("a sort far: " + far, -1, y -> y.likely(0, 1, far));
        }
    }
}
