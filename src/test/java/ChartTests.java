/** Promises 34, 35 and 43: charts by orders, the least one, and forms that ask straight on. */
final class ChartTests {
    private ChartTests() {
    }

    static void all() {
        promise34();
        promise35();
        promise43();
        oneFact();
        nineFacts();
        manyWays();
    }

    private static CoalForm example() {
        CoalForm x = new CoalForm(3);
        Check.law(x, "1:a&b;2:cua");
        return x;
    }

    static void promise34() {
        CoalForm x = example();
        // orders: abc 5, acb 7, bac 11, bca 15, cab 19, cba 21
        int[][] due = {{5, 3, 1}, {7, 3, 1}, {11, 4, 2}, {15, 6, 3}, {19, 4, 2}, {21, 6, 3}};
        for (int[] row : due) {
            Check.due("34: size by " + row[0], x.chart(0, row[0], 0), row[1]);
            Check.due("34: width by " + row[0], x.chart(0, row[0], 1), row[2]);
        }
        for (int order : new int[] {-1, 0, 4, 6, 26, 27, 32, Integer.MIN_VALUE, Integer.MAX_VALUE}) {
            Check.due("34: no order " + order, x.chart(0, order, 0), -1);
        }
        Check.due("34: no such what", x.chart(0, 5, 2), -1);
        Check.due("34: none below", x.chart(0, 5, -1), -1);
        Check.due("34: no law", x.chart(1, 5, 0), -1);
        Check.law(x, "1:b");
        Check.due("34: one fact matters", x.chart(1, 21, 0), 1);
        Check.law(x, "1:a|!a");
        Check.due("34: none matters", x.chart(2, 5, 0), 0);
        Check.due("34: none is widest", x.chart(2, 5, 1), 0);
    }

    static void promise35() {
        CoalForm x = example();
        Check.due("35: fewest", x.least(0, 0), 3);
        Check.due("35: the lowest order", x.least(0, 1), 5);
        Check.law(x, "1:c&b;2:auc");
        Check.due("35: fewest from c on", x.least(1, 0), 3);
        Check.due("35: cab goes ahead of cba", x.least(1, 1), 19);
        Check.due("35: again", x.least(0, 1), 5);
        Check.due("35: no such what", x.least(0, 2), -1);
        Check.due("35: none below", x.least(0, -1), -1);
        Check.due("35: no law", x.least(2, 0), -1);
        CoalForm six = new CoalForm(6);
        Check.law(six, "1:a&d|b&e|c&f");
        Check.due("35: pairs together", six.least(0, 0), 6);
        // adbecf: 0, 3, 1, 4, 2, 5 to the base of six
        int order = ((((0 * 6 + 3) * 6 + 1) * 6 + 4) * 6 + 2) * 6 + 5;
        Check.due("35: in this order", six.least(0, 1), order);
        Check.due("35: pairs apart", six.chart(0, ((((0 * 6 + 1) * 6 + 2) * 6 + 3) * 6 + 4) * 6 + 5, 0), 14);
        Check.due("35: and wide", six.chart(0, ((((0 * 6 + 1) * 6 + 2) * 6 + 3) * 6 + 4) * 6 + 5, 1), 4);
    }

    static void promise43() {
        CoalForm x = example();
        for (int c = 0; c < 8; c++) {
            Check.due("43: abc on " + c, x.straight(0, 5, c), 2);
        }
        Check.due("43: bca on 0: not b, not c", x.straight(0, 15, 0), 2);
        Check.due("43: bca on 4: not b, c, a", x.straight(0, 15, 4), 3);
        Check.due("43: bca on 3: b, not c, a", x.straight(0, 15, 3), 3);
        Check.due("43: worst of abc", x.straight(0, 5, -1), 2);
        x.set(0, 2, 40);
        Check.due("43: by minutes", x.straight(0, 5, -1), 41);
        x.set(2, 2, 1);
        Check.due("43: barred or not", x.straight(0, 5, -1), 41);
        Check.due("43: facts, not minutes", x.straight(0, 5, 0), 2);
        Check.due("43: all three", x.straight(0, 15, -1), 42);
        Check.due("43: no order", x.straight(0, 6, 0), -1);
        Check.due("43: none below", x.straight(0, -5, -1), -1);
        Check.due("43: no case", x.straight(0, 5, 8), -1);
        Check.due("43: none below", x.straight(0, 5, -2), -1);
        Check.due("43: no law", x.straight(1, 5, 0), -1);
        Check.law(x, "1:a|!a");
        Check.due("43: nothing is asked", x.straight(1, 5, 0), 0);
        Check.due("43: nothing at all", x.straight(1, 5, -1), 0);
    }

    private static void oneFact() {
        CoalForm x = new CoalForm(1);
        Check.law(x, "1:a");
        Check.due("34: the one order", x.chart(0, 0, 0), 1);
        Check.due("34: no other", x.chart(0, 1, 0), -1);
        Check.due("35: the one order", x.least(0, 1), 0);
        Check.due("43: the one order", x.straight(0, 0, 1), 1);
    }

    /** So many of nine in all: every order is as good, with a box for each number that is still open. */
    private static void nineFacts() {
        CoalForm x = new CoalForm(9);
        Check.law(x, "1:5#abcdefghi");
        int order = 0;
        for (int f = 0; f < 9; f++) {
            order = order * 9 + f;
        }
        Check.due("34: five of nine", x.chart(0, order, 0), 25);
        Check.due("34: five wide", x.chart(0, order, 1), 5);
        Check.due("34: the last order", x.chart(0, 387420488 - order, 0), 25);
        Check.due("34: one below the last order", x.chart(0, 387420487 - order, 0), -1);
        Check.due("34: beyond the base", x.chart(0, 387420489 + order, 0), -1);
        Check.due("35: five of nine", x.least(0, 0), 25);
        Check.due("35: by the lowest order", x.least(0, 1), order);
        Check.due("43: five are enough", x.straight(0, order, 31), 5);
        Check.due("43: all nine", x.straight(0, order, -1), 9);
    }

    /** With seven facts known it goes on in as many ways as there can be (128), or in 64 and g never matters. */
    private static void manyWays() {
        String text = "0:h&i&a&b;1:h&i&a;2:h&i&b;0:h&!i&c&d;1:h&!i&c;2:h&!i&d;0:i&!h&e&f;1:i&!h&e;2:i&!h&f";
        CoalForm x = new CoalForm(9);
        Plain plain = new Plain(9);
        for (int law = 0; law < 2; law++) {
            plain.tape = law == 0 ? text + ";3:g&!h&!i" : text;
            Check.due("5: a long law", Check.law(x, plain.tape), plain.text(0));
        }
        int[][] orders = {{0, 1, 2, 3, 4, 5, 6, 7, 8}, {6, 5, 4, 3, 2, 1, 0, 8, 7}, {7, 8, 0, 1, 2, 3, 4, 5, 6},
            {0, 7, 1, 8, 2, 3, 6, 4, 5}};
        for (int[] order : orders) {
            int number = 0;
            for (int fact : order) {
                number = number * 9 + fact;
            }
            byOrder(x, plain, 0, number);
            byOrder(x, plain, 1, number);
        }
        Check.due("35: its order has so many", x.chart(0, x.least(0, 1), 0), x.least(0, 0));
    }

    private static void byOrder(CoalForm x, Plain plain, int law, int order) {
        Check.due("34: many ways by " + order, x.chart(law, order, 0), plain.chart(law, order, 0));
        Check.due("34: widest by " + order, x.chart(law, order, 1), plain.chart(law, order, 1));
        Check.due("35: no more than by " + order, x.least(law, 0) <= x.chart(law, order, 0), true);
        Check.due("43: many ways by " + order, x.straight(law, order, -1), plain.straight(law, order, -1));
    }
}
