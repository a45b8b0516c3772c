/** Promises 18 to 24, 31 and 42: settings, sorts, shares, asking out, people. */
final class PeopleTests {
    private PeopleTests() {
    }

    static void all() {
        promise18();
        promise19();
        promise20();
        promise21();
        promises22To24();
        twoTogether();
        noneThere();
        promise31();
        promise42();
    }

    static void promise18() {
        CoalForm x = new CoalForm(2);
        Check.question(x, "a");
        Check.law(x, "1:a;2:b");
        int[][] due = {{0, 0, 1, 1}, {0, 1, 99, 1}, {0, 0, 0, 0}, {0, 0, 100, 0}, {0, 2, 1, 0}, {0, -1, 1, 0},
            {1, 0, 1, 1}, {1, 0, 99, 1}, {1, 0, 0, 0}, {1, 0, 100, 0}, {1, 1, 1, 0}, {1, -1, 1, 0},
            {2, 0, 1, 1}, {2, 0, 0, 1}, {2, 0, 2, 0}, {2, 0, -1, 0}, {2, 2, 0, 0}, {2, -1, 0, 0},
            {3, 0, 10, 1}, {3, 1, 0, 1}, {3, 0, 11, 0}, {3, 0, -1, 0}, {3, 2, 0, 0}, {3, -1, 0, 0},
            {4, 0, 1, 0}, {-1, 0, 1, 0}, {0, Integer.MAX_VALUE, 1, 0}, {0, 0, Integer.MIN_VALUE, 0}};
        for (int[] row : due) {
            Check.due("18: set(" + row[0] + ", " + row[1] + ", " + row[2] + ")", x.set(row[0], row[1], row[2]),
                    row[3] == 1);
        }
        Check.due("18: minutes as last set", x.worst(0, -1, 0, 0), 100);
        x.set(2, 1, 1);
        Check.due("18: barred", x.worst(0, -1, 0, 0), -1);
        x.set(2, 1, 0);
        Check.due("18: not barred", x.worst(0, -1, 0, 0), 100);
        x.set(0, 1, 0);
        Check.due("18: refused changes nothing", x.worst(0, -1, 0, 0), 100);
        x.set(0, 1, 7);
        Check.due("18: other minutes", x.worst(0, -1, 0, 0), 8);
    }

    static void promise19() {
        CoalForm x = new CoalForm(1);
        for (int weight : new int[] {0, -1, 10, Integer.MIN_VALUE, Integer.MAX_VALUE}) {
            Check.due("19: out of bounds " + weight, x.sort(weight), -1);
        }
        Check.due("19: first", x.sort(1), 0);
        Check.due("19: second", x.sort(9), 1);
        Check.due("19: their share", x.share(0, 0), 100);
        Check.due("19: at first five of ten", x.share(1, 1), 50);
        Check.due("19: third", x.sort(3), 2);
        Check.due("19: fourth", x.sort(3), 3);
        Check.due("19: there are four", x.sort(3), -1);
        Check.due("19: four", x.count(3), 4);
        Check.due("19: share of four", x.share(0, 0), 160);
    }

    static void promise20() {
        CoalForm x = new CoalForm(2);
        Check.due("20: no sort yet", x.chance(0, 0, 5), false);
        x.sort(1);
        x.sort(2);
        int[][] due = {{0, 0, 0, 1}, {1, 1, 10, 1}, {0, 0, 11, 0}, {0, 0, -1, 0}, {0, 2, 5, 0}, {0, -1, 5, 0},
            {2, 0, 5, 0}, {-1, 0, 5, 0}};
        for (int[] row : due) {
            Check.due("20: chance(" + row[0] + ", " + row[1] + ", " + row[2] + ")", x.chance(row[0], row[1], row[2]),
                    row[3] == 1);
        }
        Check.due("20: a is so", x.share(1, 1), 100);
        Check.due("20: b is so", x.share(2, 2), 250);
        Check.due("20: b is not so", x.share(2, 0), 50);
    }

    static void promise21() {
        CoalForm x = new CoalForm(3);
        Check.due("21: no sorts", x.share(0, 0), 0);
        x.sort(2);
        x.sort(3);
        x.chance(0, 0, 8);
        x.chance(1, 0, 1);
        x.chance(1, 2, 9);
        Check.due("21: nothing", x.share(0, 0), 5000);
        Check.due("21: a", x.share(1, 1), 1600 + 300);
        Check.due("21: not a", x.share(1, 0), 400 + 2700);
        Check.due("21: a, not c", x.share(5, 1), 800 + 30);
        Check.due("21: all", x.share(7, 7), 400 + 135);
        int[][] none = {{1, 2}, {8, 0}, {-1, 0}, {1, -1}, {0, 1}, {7, 15}};
        for (int[] row : none) {
            Check.due("21: none " + row[0] + ", " + row[1], x.share(row[0], row[1]), -1);
        }
        CoalForm nine = new CoalForm(9);
        for (int k = 0; k < 4; k++) {
            nine.sort(9);
        }
        Check.due("21: the most", nine.share(0, 0), 36000000000L);
    }

    private static CoalForm example() {
        CoalForm x = new CoalForm(3);
        Check.law(x, "1:a&b;2:cua");
        return x;
    }

    private static void out(String what, CoalForm x, int known, int so, long mean, int worst, int byMean, int byWorst) {
        Check.due("22: mean " + what, x.mean(0, -1, known, so), mean);
        Check.due("23: worst " + what, x.worst(0, -1, known, so), worst);
        Check.due("24: best by mean " + what, x.best(0, -1, known, so, 0), byMean);
        Check.due("24: best by worst " + what, x.best(0, -1, known, so, 1), byWorst);
    }

    static void promises22To24() {
        CoalForm x = example();
        out("without sorts", x, 0, 0, 0, 2, 0, 0);
        x.sort(1);
        out("from nothing", x, 0, 0, 2000, 2, 0, 0);
        out("from a", x, 1, 1, 500, 1, 1, 1);
        out("from not a", x, 1, 0, 500, 1, 2, 2);
        out("from b", x, 2, 2, 750, 2, 0, 0);
        out("sure", x, 3, 3, 0, 0, -1, -1);
        x.set(0, 0, 5);
        out("dear a", x, 0, 0, 5500, 6, 1, 0);
        x.set(2, 0, 1);
        out("a barred", x, 0, 0, -1, -1, -1, -1);
        out("a barred, but known", x, 1, 1, 500, 1, 1, 1);
        out("a barred, not b and not c", x, 6, 0, 0, 0, -1, -1);
        x.set(2, 0, 0);
        x.set(2, 1, 1);
        out("b barred", x, 0, 0, -1, -1, -1, -1);
        x.set(2, 1, 0);
        x.chance(0, 0, 10);
        out("a for certain", x, 0, 0, 5250, 6, 1, 0);
        out("nobody is there", x, 1, 0, 0, 1, 1, 2);
        x.set(2, 2, 1);
        out("nobody is there, but it can't be asked out", x, 1, 0, -1, -1, -1, -1);
    }

    static void twoTogether() {
        CoalForm x = example();
        x.sort(1);
        Check.law(x, "4:b");
        Check.due("22: b alone", x.mean(1, -1, 0, 0), 1000);
        Check.due("22: both", x.mean(0, 1, 0, 0), 1000 + 1000 + 500);
        Check.due("22: the other way", x.mean(1, 0, 0, 0), 2500);
        Check.due("22: itself", x.mean(0, 0, 0, 0), 2000);
        Check.due("23: both", x.worst(0, 1, 0, 0), 3);
        Check.due("24: both by mean", x.best(0, 1, 0, 0, 0), 0);
        Check.due("24: both by worst", x.best(0, 1, 0, 0, 1), 0);
        Check.due("23: one sure", x.worst(0, 1, 5, 4), 1);
        Check.due("24: the other is not", x.best(0, 1, 5, 4, 0), 1);
    }

    static void noneThere() {
        CoalForm x = example();
        int[][] none = {{1, -1, 0, 0}, {-1, 0, 0, 0}, {0, 1, 0, 0}, {0, -2, 0, 0}, {0, -1, 8, 0}, {0, -1, -1, 0},
            {0, -1, 1, 2}, {0, -1, 0, -1}};
        for (int[] row : none) {
            String what = row[0] + ", " + row[1] + ", " + row[2] + ", " + row[3];
            Check.due("22: none " + what, x.mean(row[0], row[1], row[2], row[3]), -1);
            Check.due("23: none " + what, x.worst(row[0], row[1], row[2], row[3]), -1);
            Check.due("24: none " + what, x.best(row[0], row[1], row[2], row[3], 0), -1);
        }
        Check.due("24: no such what", x.best(0, -1, 0, 0, 2), -1);
        Check.due("24: none below", x.best(0, -1, 0, 0, -1), -1);
    }

    static void promise31() {
        CoalForm x = new CoalForm(3);
        Check.due("31: no sorts", x.person(1, 0), -1);
        x.sort(1);
        x.sort(3);
        // From 0 the draws are 167951807 (modulo 4 is 3: the second sort), 218396424, 1299921937 and 861605236
        // (modulo 10 are 4, 7, 6).
        Check.due("31: sort of 0", x.person(0, 1), 1);
        Check.due("31: case of 0", x.person(0, 0), 1);
        x.chance(1, 0, 4);
        Check.due("31: 4 is not below 4", x.person(0, 0), 0);
        x.chance(1, 1, 8);
        Check.due("31: 7 is below 8", x.person(0, 0), 2);
        x.chance(1, 2, 6);
        Check.due("31: 6 is not below 6", x.person(0, 0), 2);
        x.chance(1, 2, 7);
        Check.due("31: 6 is below 7", x.person(0, 0), 6);
        x.chance(0, 0, 10);
        Check.due("31: the first sort's chances do not count", x.person(0, 0), 6);
        // From -1 the draws are, modulo 4 and then 10, 0, 3, 7, 2; from 1 they are 2, 3, 6, 0.
        Check.due("31: sort of -1", x.person(-1, 1), 0);
        Check.due("31: case of -1", x.person(-1, 0), 5);
        Check.due("31: sort of 1", x.person(1, 1), 1);
        Check.due("31: case of 1", x.person(1, 0), 7);
        Check.due("31: no such what", x.person(0, 2), -1);
        Check.due("31: none below", x.person(0, -1), -1);
    }

    static void promise42() {
        CoalForm x = example();
        Check.due("42: no sorts", x.likely(0, 1, -1), 0);
        Check.due("42: no sort 0", x.likely(0, 1, 0), -1);
        x.sort(2);
        x.sort(1);
        x.chance(1, 0, 0);
        Check.due("42: says 1", x.likely(0, 1, -1), 500);
        Check.due("42: says 2", x.likely(0, 2, -1), 500 + 500);
        Check.due("42: nothing", x.likely(0, -1, -1), 1000 + 500);
        Check.due("42: never", x.likely(0, 5, -1), 0);
        Check.due("42: first sort", x.likely(0, 2, 0), 500);
        Check.due("42: second sort", x.likely(0, 1, 1), 0);
        Check.due("42: no such outcome", x.likely(0, 6, -1), -1);
        Check.due("42: none below", x.likely(0, -2, -1), -1);
        Check.due("42: no such sort", x.likely(0, 1, 2), -1);
        Check.due("42: none below", x.likely(0, 1, -2), -1);
        Check.due("42: no law", x.likely(1, 1, -1), -1);
    }
}
