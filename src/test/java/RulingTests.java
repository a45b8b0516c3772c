/** Promises 36 to 38: rulings, those against, and the cure. */
final class RulingTests {
    private RulingTests() {
    }

    static void all() {
        promise36();
        promise37();
        promise38();
    }

    static void promise36() {
        CoalForm x = new CoalForm(2);
        int[][] none = {{4, 0}, {-1, 0}, {0, 6}, {0, -2}, {Integer.MAX_VALUE, 0}, {0, Integer.MIN_VALUE}};
        for (int[] row : none) {
            Check.due("36: none " + row[0] + ", " + row[1], x.ruling(row[0], row[1]), -1);
        }
        Check.due("36: none is kept", x.count(6), 0);
        for (int k = 1; k <= 20; k++) {
            Check.due("36: so many", x.ruling(k % 4, k % 7 - 1), k);
        }
        Check.due("36: there are twenty", x.ruling(0, 0), -1);
        Check.due("36: twenty", x.count(6), 20);
    }

    static void promise37() {
        CoalForm x = new CoalForm(2);
        Check.law(x, "1:a;2:b");
        Check.due("37: no rulings", x.against(0), 0);
        x.ruling(0, -1);
        x.ruling(1, 2);
        x.ruling(3, 1);
        x.ruling(1, 2);
        x.ruling(2, -1);
        x.ruling(0, 0);
        Check.due("37: against", x.against(0), 2 + 8 + 16 + 32);
        Check.law(x, "2:a|b");
        Check.due("37: another law", x.against(1), 4 + 16 + 32);
        Check.due("37: no law", x.against(2), -1);
        Check.due("37: below", x.against(-1), -1);
        for (int k = 6; k < 20; k++) {
            x.ruling(0, 3);
        }
        Check.due("37: the last too", x.against(0), (1 << 20) - 1 - 1 - 4);
    }

    static void promise38() {
        CoalForm x = new CoalForm(3);
        Check.law(x, "1:a;1:a&b;2:a&b&c;3:a;3:b;4:c");
        Check.due("38: nothing to cure", x.cure(0), 0);
        x.ruling(1, 1);
        Check.due("38: not against", x.cure(0), 0);
        x.ruling(7, 2);
        Check.due("38: no set leaves both", x.cure(0), -1);
        CoalForm y = new CoalForm(3);
        Check.law(y, "1:a;1:a&b;2:a&b&c;3:a;3:b;4:c");
        y.ruling(7, 2);
        Check.due("38: two", y.cure(0), 3);
        y.ruling(3, 3);
        Check.due("38: they do for this too", y.cure(0), 3);
        y.ruling(6, 4);
        Check.due("38: one more", y.cure(0), 19);
        y.ruling(1, -1);
        Check.due("38: and one more", y.cure(0), -1);
        CoalForm z = new CoalForm(2);
        Check.law(z, "1:aub;2:b;1:b;2:b;1:b&!a");
        z.ruling(2, 2);
        z.ruling(0, -1);
        Check.due("38: none need be struck", z.cure(0), 0);
        Check.law(z, "1:b;2:b;1:b;2:b");
        Check.due("38: the first alone", z.cure(1), 1);
        Check.due("38: no law", z.cure(2), -1);
        Check.due("38: below", z.cure(-1), -1);
        Check.law(z, "1:1#ab;3:!a&!b;2:b;3:!a");
        Check.due("38: three for two", z.cure(2), 1 + 2 + 8);
        manyHold();
    }

    /** What one ruling wants struck another one may want kept. */
    private static void manyHold() {
        CoalForm x = new CoalForm(3);
        Check.law(x, "0:a;1:a;1:b;0:b");
        x.ruling(1, -1);
        Check.due("38: both that hold", x.cure(0), 3);
        x.ruling(2, 0);
        Check.due("38: and one of b", x.cure(0), 7);
        Check.law(x, "0:a|b;1:a&c;2:a");
        Check.due("38: all that hold on a go", x.cure(1), -1);
    }
}
