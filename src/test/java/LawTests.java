import java.util.NoSuchElementException;

/** Promises 6 to 12, 32, 33, 39 and 41: what laws say, and what becomes of it if they are changed or read otherwise. */
final class LawTests {
    private static final int[] FAR = {-1, -2, 6, Integer.MIN_VALUE, Integer.MAX_VALUE};

    private LawTests() {
    }

    static void all() {
        promise6();
        thresholds();
        promise7();
        promise8();
        promise9();
        promise10();
        promise11();
        promise12();
        promise32();
        promise33();
        promise39();
        promise41();
    }

    /** On three facts: 0 nothing, 1 nothing, 2 nothing, 3 says 1, 4 says 2, 5 nothing, 6 says 2, 7 says 1. */
    private static CoalForm example() {
        CoalForm x = new CoalForm(3);
        Check.law(x, "1:a&b;2:cua");
        return x;
    }

    private static int sayOrThrow(CoalForm x, int law, int cases) {
        try {
            return x.says(law, cases);
        } catch (NoSuchElementException none) {
            return -9;
        }
    }

    private static void saysAll(String text, int... due) {
        CoalForm x = new CoalForm(due.length == 8 ? 3 : 2);
        Check.law(x, text);
        for (int c = 0; c < due.length; c++) {
            Check.due("6: " + text + " on " + c, sayOrThrow(x, 0, c), due[c]);
        }
    }

    static void promise6() {
        saysAll("1:a&b;2:cua", -1, -1, -1, 1, 2, -1, 2, 1);
        saysAll("3:a|b&c", -1, 3, -1, 3, -1, 3, 3, 3);
        saysAll("3:(a|b)&c", -1, -1, -1, -1, -1, 3, 3, 3);
        saysAll("0:!a&b", -1, -1, 0, -1);
        saysAll("0:!(a&b)", 0, 0, 0, -1);
        saysAll("0:!!a|!b", 0, 0, -1, 0);
        saysAll("4:a;5:a|b", -1, 4, 5, 4);
        saysAll("4:aub;5:bua;0:!a&!b", 0, 4, 5, -1);
        CoalForm x = example();
        for (int law : FAR) {
            Check.due("6: no law " + law, sayOrThrow(x, law, 0), -9);
        }
        for (int c : new int[] {-1, 8, Integer.MIN_VALUE, Integer.MAX_VALUE}) {
            Check.due("6: no case " + c, sayOrThrow(x, 0, c), -9);
        }
        Check.due("6: no second law", sayOrThrow(x, 1, 0), -9);
    }

    static void thresholds() {
        saysAll("1:2#abc", -1, -1, -1, 1, -1, 1, 1, 1);
        saysAll("1:1#ac", -1, 1, -1, 1, 1, 1, 1, 1);
        saysAll("1:3#abc", -1, -1, -1, -1, -1, -1, -1, 1);
        saysAll("1:9#abc", -1, -1, -1, -1, -1, -1, -1, -1);
        saysAll("1:!2#ab&c", -1, -1, -1, -1, 1, 1, 1, -1);
    }

    static void promise7() {
        CoalForm x = new CoalForm(2);
        Check.law(x, "1:a;2:bua;3:a|b");
        int[] due = {0, 5, 6, 5};
        for (int c = 0; c < 4; c++) {
            Check.due("7: clauses on " + c, x.clauses(0, c), due[c]);
        }
        Check.due("7: no case", x.clauses(0, 4), -1);
        Check.due("7: no case below", x.clauses(0, -1), -1);
        Check.due("7: no law", x.clauses(1, 0), -1);
        Check.due("7: no law below", x.clauses(-1, 0), -1);
    }

    static void promise8() {
        CoalForm x = new CoalForm(2);
        Check.law(x, "1:a;1:a|b;2:b");
        Check.due("8: clashes", x.gap(0, 0, -1), 2);
        Check.due("8: first clash", x.gap(0, 0, 0), 2);
        Check.due("8: second clash", x.gap(0, 0, 1), 3);
        Check.due("8: no third", x.gap(0, 0, 2), -1);
        Check.due("8: open", x.gap(0, 1, -1), 1);
        Check.due("8: the open one", x.gap(0, 1, 0), 0);
        Check.due("8: i below", x.gap(0, 1, -2), -1);
        Check.due("8: i far", x.gap(0, 1, Integer.MAX_VALUE), -1);
        Check.due("8: no such what", x.gap(0, 2, -1), -1);
        Check.due("8: none below", x.gap(0, -1, -1), -1);
        Check.due("8: no law", x.gap(1, 0, -1), -1);
        Check.law(x, "1:a;1:a");
        Check.due("8: like outcomes do not clash", x.gap(1, 0, -1), 0);
        Check.law(x, "0:a|!a");
        Check.due("8: none open", x.gap(2, 1, -1), 0);
    }

    static void promise9() {
        CoalForm x = example();
        int[][] due = {{0, 0, -2}, {3, 3, 1}, {3, 1, -1}, {5, 4, 2}, {5, 0, -1}, {1, 1, -2}, {7, 6, 2}, {7, 5, -1},
            {6, 0, -1}, {6, 2, -2}};
        for (int[] row : due) {
            Check.due("9: sure " + row[0] + ", " + row[1], x.sure(0, row[0], row[1]), row[2]);
        }
        int[][] none = {{1, 2}, {0, 1}, {8, 0}, {-1, 0}, {7, 8}, {3, -1}, {Integer.MIN_VALUE, 0}};
        for (int[] row : none) {
            Check.due("9: none " + row[0] + ", " + row[1], x.sure(0, row[0], row[1]), -2);
        }
        Check.due("9: no law", x.sure(1, 7, 7), -2);
        Check.due("9: none below", x.sure(-1, 7, 7), -2);
        Check.law(x, "4:a|!a");
        Check.due("9: sure of itself", x.sure(1, 0, 0), 4);
    }

    static void promise10() {
        CoalForm x = example();
        Check.due("10: all matter", x.matters(0, 0), 7);
        Check.due("10: none always", x.matters(0, 1), 0);
        Check.law(x, "1:a&!c;2:c&!a;3:a&c");
        Check.due("10: b never", x.matters(1, 0), 5);
        Check.due("10: the others always", x.matters(1, 1), 5);
        Check.law(x, "1:b|a&!a");
        Check.due("10: what is named need not matter", x.matters(2, 0), 2);
        Check.due("10: b always", x.matters(2, 1), 2);
        Check.due("10: no such what", x.matters(0, 2), -1);
        Check.due("10: none below", x.matters(0, -1), -1);
        Check.due("10: no law", x.matters(3, 0), -1);
    }

    static void promise11() {
        CoalForm x = example();
        int[] due = {5, 3, 5, 3, 5, 3, 5, 3};
        for (int c = 0; c < 8; c++) {
            Check.due("11: proof of " + c, x.proof(0, c), due[c]);
        }
        Check.law(x, "1:c|a&b");
        Check.due("11: one is fewer than two", x.proof(1, 7), 4);
        Check.due("11: the lower one", x.proof(1, 0), 5);
        Check.law(x, "1:2#abc");
        Check.due("11: the two lowest", x.proof(2, 7), 3);
        Check.law(x, "1:a|!a");
        Check.due("11: nothing need be known", x.proof(3, 2), 0);
        Check.due("11: no case", x.proof(0, 8), -1);
        Check.due("11: none below", x.proof(0, -1), -1);
        Check.due("11: no law", x.proof(4, 0), -1);
        CoalForm four = new CoalForm(4);
        Check.law(four, "1:a&d|b&c");
        Check.due("11: ad goes ahead of bc", four.proof(0, 15), 9);
    }

    static void promise12() {
        CoalForm x = example();
        Check.law(x, "1:a&b;2:c");
        Check.due("12: parts", x.parts(0, 1, -1), 1);
        Check.due("12: the case", x.parts(0, 1, 0), 5);
        Check.due("12: the other way", x.parts(1, 0, 0), 5);
        Check.due("12: no second", x.parts(0, 1, 1), -1);
        Check.due("12: i below", x.parts(0, 1, -2), -1);
        Check.due("12: from itself", x.parts(1, 1, -1), 0);
        Check.due("12: no other", x.parts(0, 2, -1), -1);
        Check.due("12: no one", x.parts(2, 0, -1), -1);
        Check.due("12: none below", x.parts(0, -1, -1), -1);
        Check.law(x, "2:a&b;2:cua");
        Check.due("12: by outcomes", x.parts(0, 2, -1), 2);
        Check.due("12: second of them", x.parts(0, 2, 1), 7);
    }

    static void promise32() {
        CoalForm x = new CoalForm(2);
        Check.law(x, "1:a;2:b;3:a&b");
        Check.law(x, "1:!!a;2:bua;4:b&a;0:a");
        Check.law(x, "2:b");
        Check.due("32: cases, outcome, none", x.mend(0, 1), 14);
        Check.due("32: back", x.mend(1, 0), 6);
        Check.due("32: fewer", x.mend(0, 2), 1);
        Check.due("32: more", x.mend(2, 0), 7);
        Check.due("32: itself", x.mend(0, 0), 0);
        Check.due("32: no one", x.mend(3, 0), -1);
        Check.due("32: no other", x.mend(0, -1), -1);
    }

    static void promise33() {
        CoalForm x = new CoalForm(3);
        Check.law(x, "1:a;2:b;2:c;3:c&!a");
        Check.due("33: unlike ones that meet", x.swap(0, 0), 0);
        Check.due("33: like ones that meet", x.swap(0, 1), 1);
        Check.due("33: the last pair", x.swap(0, 2), 0);
        Check.due("33: no next", x.swap(0, 3), -1);
        Check.due("33: none below", x.swap(0, -1), -1);
        Check.due("33: far", x.swap(0, Integer.MAX_VALUE), -1);
        Check.due("33: no law", x.swap(1, 0), -1);
        Check.law(x, "1:a;2:b;3:a&b");
        Check.due("33: where another goes ahead", x.swap(1, 1), 1);
        Check.law(x, "1:a;2:!a");
        Check.due("33: they never meet", x.swap(2, 0), 1);
    }

    static void promise39() {
        CoalForm x = new CoalForm(2);
        Check.law(x, "1:a;1:a&b;2:b;3:a|b");
        int[] due = {1, 0, 1, 0};
        for (int k = 0; k < 4; k++) {
            Check.due("39: burden " + k, x.burden(0, k), due[k]);
        }
        Check.due("39: idle", x.burden(0, -1), 10);
        Check.due("39: no clause", x.burden(0, 4), -1);
        Check.due("39: below", x.burden(0, -2), -1);
        Check.due("39: no law", x.burden(1, 0), -1);
        Check.law(x, "2:b");
        Check.due("39: none idle", x.burden(1, -1), 0);
        Check.due("39: the only one", x.burden(1, 0), 2);
    }

    static void promise41() {
        CoalForm x = example();
        Check.due("41: a for b", x.office(0, 0, 1), 2);
        Check.due("41: b for a", x.office(0, 1, 0), 2);
        Check.due("41: a for c", x.office(0, 0, 2), 4);
        Check.due("41: one fact", x.office(0, 1, 1), -1);
        Check.due("41: no fact", x.office(0, 0, 3), -1);
        Check.due("41: below", x.office(0, -1, 1), -1);
        Check.due("41: no law", x.office(1, 0, 1), -1);
        Check.law(x, "1:2#abc");
        Check.due("41: alike", x.office(1, 0, 2), 0);
    }
}
