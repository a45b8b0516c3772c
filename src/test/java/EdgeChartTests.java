/** The boundaries that promises 34, 35 and 43 name: charts by orders, the least one, straight forms. */
final class EdgeChartTests {
    /** So many of nine, where each number goes on otherwise and each fact matters always. */
    private static final String EACH = "5:9#abcdefghi;2:8#abcdefghi;0:7#abcdefghi;5:6#abcdefghi;4:5#abcdefghi;"
            + "3:4#abcdefghi;2:3#abcdefghi;1:2#abcdefghi;0:1#abcdefghi";

    private EdgeChartTests() {
    }

    static void all() {
        orders();
        ordersOfNine();
        boxes();
        noSuchChart();
        least();
        noSuchLeast();
        straight();
        noSuchStraight();
    }

    private static CoalForm of(int facts, String... laws) {
        CoalForm x = new CoalForm(facts);
        for (String law : laws) {
            Check.due("a law is taken: " + law, Check.law(x, law) >= 0, true);
        }
        return x;
    }

    private static int order(int base, int... facts) {
        int number = 0;
        for (int fact : facts) {
            number = number * base + fact;
        }
        return number;
    }

    private static boolean isOrder(int number, int facts) {
        int seen = 0;
        int left = number;
        for (int k = 0; k < facts; k++) {
            seen |= 1 << left % facts;
            left /= facts;
        }
        return left == 0 && seen == (1 << facts) - 1;
    }

    // ---- promise 34 ----

    private static void orders() {
        Edge edge = Edge.of(34, "An ORDER is told as a number to the base of how many FACTS there are, the first FACT the highest digit.");
        for (int facts = 1; facts <= 4; facts++) {
            CoalForm x = of(facts, "1:a|!a");
            int all = (int) Math.pow(facts, facts);
            for (int number = -2; number < all + 3 + facts; number++) {
                boolean may = number >= 0 && (facts == 1 ? number == 0 : isOrder(number, facts));
                edge.due(number + " of " + facts + " facts", x.chart(0, number, 0), may ? 0 : -1);
            }
        }
        CoalForm x = of(3, "1:a;2:b&c");
        edge.due("abc: a, b, c", x.chart(0, order(3, 0, 1, 2), 0), 3);
        edge.due("cab: c is the highest digit", x.chart(0, order(3, 2, 0, 1), 0), 4);
        edge.due("bca: a is the lowest digit", x.chart(0, order(3, 1, 2, 0), 0), 4);
        edge.due("the lowest order", order(3, 0, 1, 2), 5);
        edge.due("the highest order", x.chart(0, 21, 0), 4);
    }

    private static void ordersOfNine() {
        Edge edge = Edge.of(34, "CHART: SIZE (what 0), WIDTH (1). NONE: no such ones, no ORDER.");
        CoalForm x = of(9, "1:i", EACH);
        int first = order(9, 0, 1, 2, 3, 4, 5, 6, 7, 8);
        int last = order(9, 8, 7, 6, 5, 4, 3, 2, 1, 0);
        edge.due("the first", x.chart(0, first, 0), 1);
        edge.due("the last", x.chart(0, last, 0), 1);
        edge.due("one less than the first", x.chart(0, first - 1, 0), -1);
        edge.due("one more than the last", x.chart(0, last + 1, 0), -1);
        edge.due("the first, and a tenth digit", x.chart(0, first + 387420489, 0), -1);
        edge.due("the last, and a tenth digit", x.chart(0, last + 2 * 387420489, 0), -1);
        edge.due("b, then a", x.chart(0, order(9, 1, 0, 2, 3, 4, 5, 6, 7, 8), 0), 1);
        edge.due("one fact twice", x.chart(0, order(9, 0, 1, 2, 3, 4, 5, 6, 7, 7), 0), -1);
        edge.due("all of them the last", x.chart(0, 387420488, 0), -1);
        edge.due("the highest number", x.chart(0, Integer.MAX_VALUE, 0), -1);
        edge.due("the first below 0", x.chart(0, -first, 0), -1);
        edge.due("the lowest number", x.chart(0, Integer.MIN_VALUE, 0), -1);
        edge.due("each fact matters to the last", x.chart(1, first, 0), 45);
        edge.due("nine of the last one", x.chart(1, first, 1), 9);
        edge.due("by the last order too", x.chart(1, last, 0), 45);
    }

    private static void boxes() {
        Edge edge = Edge.of(34, "not counting those in which this FACT does not MATTER any more");
        CoalForm x = of(3, "1:a|!a", "1:c", "1:a&b&c", "1:a&b|c", "1:a&!a");
        int[][] due = {{0, 0}, {1, 1}, {3, 1}, {3, 1}, {0, 0}};
        for (int law = 0; law < 5; law++) {
            edge.due("size of law " + law, x.chart(law, 5, 0), due[law][0]);
            edge.due("width of law " + law, x.chart(law, 5, 1), due[law][1]);
        }
        edge.due("a, c, b: b once", x.chart(3, order(3, 0, 2, 1), 0), 4);
        Edge unlike = Edge.of(34, "as many BOXES as there are unlike ways in which what the LAW SAYS may go on");
        CoalForm y = of(3, "1:a&c;1:b&c", "1:a&c;2:b&c", "1:a&b&c;1:!a&!b&c", "1:a&b;2:!a&b;1:c");
        unlike.due("two ways that are alike", y.chart(0, 5, 0), 3);
        unlike.due("two ways that are not", y.chart(1, 5, 0), 4);
        unlike.due("two of b, one of c", y.chart(2, 5, 0), 4);
        unlike.due("and two wide", y.chart(2, 5, 1), 2);
        unlike.due("two of b, one of c", y.chart(3, 5, 0), 4);
        Edge width = Edge.of(34, "WIDTH: the most BOXES of one FACT.");
        CoalForm four = of(4, "1:a&c|b&d", "0:a&b;1:a&d;2:b&c;3:c;4:d");
        width.due("two of one fact", four.chart(0, order(4, 0, 1, 2, 3), 1), 2);
        width.due("one of each fact", four.chart(0, order(4, 0, 2, 1, 3), 1), 1);
        width.due("three of the third and of the last", four.chart(1, order(4, 0, 1, 2, 3), 1), 3);
    }

    private static void noSuchChart() {
        Edge edge = Edge.of(34, "CHART: SIZE (what 0), WIDTH (1).");
        edge.refused("what 0", 3, y -> y.chart(0, 5, 0));
        edge.refused("what 1", 1, y -> y.chart(0, 5, 1));
        edge.refused("what 2", -1, y -> y.chart(0, 5, 2));
        edge.refused("what -1", -1, y -> y.chart(0, 5, -1));
        edge.refused("the last law", 4, y -> y.chart(2, 5, 0));
        edge.refused("a law behind the last", -1, y -> y.chart(3, 5, 0));
        edge.refused("a law ahead of the first", -1, y -> y.chart(-1, 5, 0));
        edge.refused("no order", -1, y -> y.chart(0, 6, 0));
        edge.refused("NONE is no order", -1, y -> y.chart(0, -1, 1));
        for (int far : Edge.FAR) {
            edge.refused("a law far: " + far, -1, y -> y.chart(far, 5, 0));
            edge.refused("an order far: " + far, -1, y -> y.chart(0, far, 0));
            edge.refused("a what far: " + far, -1, y -> y.chart(0, 5, far));
        }
    }

    // ---- promise 35 ----

    private static void least() {
        Edge edge = Edge.of(35, "LEAST: the fewest BOXES of all ORDERS, and the lowest ORDER with these.");
        CoalForm x = of(9, "1:a|!a", "1:i", EACH, "1:a&!a");
        int first = order(9, 0, 1, 2, 3, 4, 5, 6, 7, 8);
        int[] due = {0, 1, 45, 0};
        for (int law = 0; law < 4; law++) {
            edge.due("size of law " + law, x.least(law, 0), due[law]);
            edge.due("all orders are as good for law " + law, x.least(law, 1), first);
        }
        CoalForm y = of(3, "1:c&a|!c&b", "1:b&a|!b&c", "1:a&b|!a&c");
        edge.due("c first", y.least(0, 1), order(3, 2, 0, 1));
        edge.due("b first", y.least(1, 1), order(3, 1, 0, 2));
        edge.due("a first", y.least(2, 1), order(3, 0, 1, 2));
        for (int law = 0; law < 3; law++) {
            edge.due("three boxes", y.least(law, 0), 3);
        }
        CoalForm one = of(1, "1:a", "1:a|!a");
        edge.due("one fact, one box", one.least(0, 0), 1);
        edge.due("one fact, no box", one.least(1, 0), 0);
        edge.due("one fact, one order", one.least(0, 1), 0);
        CoalForm two = of(2, "1:a&b", "1:b;2:a");
        edge.due("two facts as good either way", two.least(0, 1), 1);
        edge.due("b ahead of a", two.least(1, 1), 2);
        edge.due("two boxes", two.least(0, 0), 2);
        edge.due("not three", two.least(1, 0), 2);
        CoalForm last = of(9, "0:i&h&g;1:i&h&!g;2:i&!h&f;3:i&!h&!f;4:!i&g;5:!i&!g&f");
        int size = last.least(0, 0);
        edge.due("its order has so many", last.chart(0, last.least(0, 1), 0), size);
        edge.due("the next lower ones have more", isLowest(last, last.least(0, 1), size), true);
    }

    private static boolean isLowest(CoalForm x, int number, int size) {
        int tried = 0;
        for (int lower = number - 1; lower >= 0 && tried < 300; lower--) {
            if (isOrder(lower, 9)) {
                tried++;
                if (x.chart(0, lower, 0) <= size) {
                    return false;
                }
            }
        }
        return true;
    }

    private static void noSuchLeast() {
        Edge edge = Edge.of(35, "LEAST: the SIZE (0), the ORDER (1). NONE: no such ones.");
        edge.refused("what 0", 3, y -> y.least(0, 0));
        edge.refused("what 1", 5, y -> y.least(0, 1));
        edge.refused("what 2", -1, y -> y.least(0, 2));
        edge.refused("what -1", -1, y -> y.least(0, -1));
        edge.refused("the last law", 4, y -> y.least(2, 0));
        edge.refused("a law behind the last", -1, y -> y.least(3, 0));
        edge.refused("a law ahead of the first", -1, y -> y.least(-1, 0));
        for (int far : Edge.FAR) {
            edge.refused("a law far: " + far, -1, y -> y.least(far, 0));
            edge.refused("a what far: " + far, -1, y -> y.least(0, far));
        }
    }

    // ---- promise 43 ----

    private static void straight() {
        Edge edge = Edge.of(43, "each asked just if it MATTERS still by what is KNOWN");
        CoalForm x = of(9, EACH, "1:a|!a", "1:i", "1:a&b&c&d&e&f&g&h&i");
        int first = order(9, 0, 1, 2, 3, 4, 5, 6, 7, 8);
        for (int c : new int[] {0, 1, 256, 511}) {
            edge.due("all nine on " + c, x.straight(0, first, c), 9);
            edge.due("none on " + c, x.straight(1, first, c), 0);
            edge.due("the last alone on " + c, x.straight(2, first, c), 1);
            edge.due("up to the first that is not so on " + c, x.straight(3, first, c), c == 511 ? 9 : c == 1 ? 2 : 1);
        }
        Edge worst = Edge.of(43, "MINUTES of it in the worst CASE");
        worst.due("none", x.straight(1, first, -1), 0);
        worst.due("one", x.straight(2, first, -1), 1);
        worst.due("nine", x.straight(0, first, -1), 9);
        for (int f = 0; f < 9; f++) {
            x.set(0, f, 99);
        }
        worst.due("none of 99", x.straight(1, first, -1), 0);
        worst.due("one of 99", x.straight(2, first, -1), 99);
        worst.due("nine of 99", x.straight(0, first, -1), 891);
        worst.due("facts, not minutes, on a case", x.straight(0, first, 511), 9);
        CoalForm y = of(3, "1:a&b|!a&c");
        y.set(0, 1, 5);
        y.set(0, 2, 4);
        worst.due("if a is so", y.straight(0, 5, -1), 6);
        y.set(0, 2, 6);
        worst.due("if it is not", y.straight(0, 5, -1), 7);
    }

    private static void noSuchStraight() {
        Edge edge = Edge.of(43, "MINUTES (cases NONE), how many FACTS are asked on a CASE. NONE: no such ones, no ORDER.");
        edge.refused("the worst", 5, y -> y.straight(0, 5, -1));
        edge.refused("the first case", 2, y -> y.straight(0, 5, 0));
        edge.refused("the last case", 2, y -> y.straight(0, 5, 7));
        edge.refused("a case behind the last", -1, y -> y.straight(0, 5, 8));
        edge.refused("a case ahead of NONE", -1, y -> y.straight(0, 5, -2));
        edge.refused("the first order", 2, y -> y.straight(0, 5, 0));
        edge.refused("no order, one less", -1, y -> y.straight(0, 4, 0));
        edge.refused("no order, one more", -1, y -> y.straight(0, 6, 0));
        edge.refused("the last order", 3, y -> y.straight(0, 21, 3));
        edge.refused("no order, more than the last", -1, y -> y.straight(0, 22, 0));
        edge.refused("NONE is no order", -1, y -> y.straight(0, -1, -1));
        edge.refused("the last law", 2, y -> y.straight(2, 5, 7));
        edge.refused("a law behind the last", -1, y -> y.straight(3, 5, 0));
        edge.refused("a law ahead of the first", -1, y -> y.straight(-1, 5, 0));
        for (int far : Edge.FAR) {
            edge.refused("a law far: " + far, -1, y -> y.straight(far, 5, 0));
            edge.refused("an order far: " + far, -1, y -> y.straight(0, far, 0));
            edge.refused("a case far: " + far, -1, y -> y.straight(0, 5, far));
        }
    }
}
