import java.util.NoSuchElementException;

/** Promises 13 to 17, 25, 26, 29 and 30: forms, their cost, and wrong answers on them. */
final class FormTests {
    private FormTests() {
    }

    static void all() {
        promise13();
        promise14();
        promise15();
        promise16();
        promise17();
        promise25();
        promise26();
        promise29();
        promise30();
    }

    /** The law says 1 on a and b, 2 on c without a; the form asks a, then b or c, and forgets case 7's b. */
    private static CoalForm example() {
        CoalForm x = new CoalForm(3);
        Check.law(x, "1:a&b;2:cua");
        Check.form(x, "a>1,3;c>=-,2;b>=1,=-;c>=2,=-");
        return x;
    }

    private static int leadOrThrow(CoalForm x, int form, int cases) {
        try {
            return x.leads(form, cases);
        } catch (NoSuchElementException none) {
            return -9;
        }
    }

    static void promise13() {
        CoalForm x = example();
        int[] due = {-1, -1, -1, 1, 2, -1, 2, -1};
        for (int c = 0; c < 8; c++) {
            Check.due("13: leads " + c, leadOrThrow(x, 0, c), due[c]);
        }
        int[][] none = {{1, 0}, {-1, 0}, {0, 8}, {0, -1}, {0, Integer.MAX_VALUE}};
        for (int[] row : none) {
            Check.due("13: none " + row[0] + ", " + row[1], leadOrThrow(x, row[0], row[1]), -9);
        }
        Check.form(x, "a>11,=0;" + "b>=0,=0;".repeat(10) + "b>=5,=4");
        Check.due("13: node 11", leadOrThrow(x, 1, 3), 5);
        Check.due("13: node 11 else", leadOrThrow(x, 1, 1), 4);
    }

    static void promise14() {
        CoalForm x = example();
        Check.due("14: apart", x.apart(0, 0, -1), 1);
        Check.due("14: the case", x.apart(0, 0, 0), 7);
        Check.due("14: no second", x.apart(0, 0, 1), -1);
        Check.due("14: below", x.apart(0, 0, -2), -1);
        Check.due("14: no form", x.apart(1, 0, -1), -1);
        Check.due("14: no law", x.apart(0, 1, -1), -1);
        Check.form(x, "a>1,2;b>=1,=-;c>=2,=-");
        Check.due("14: it is the law", x.apart(1, 0, -1), 0);
    }

    static void promise15() {
        CoalForm x = example();
        Check.form(x, "a>1,2;b>=1,=-;c>=2,=-");
        Check.form(x, "c>=0,=-");
        Check.due("15: the lowest", x.unlike(0, 1), 7);
        Check.due("15: of several", x.unlike(0, 2), 3);
        Check.due("15: the other way", x.unlike(2, 0), 3);
        Check.due("15: none", x.unlike(1, 1), -1);
        Check.due("15: no one", x.unlike(3, 0), -1);
        Check.due("15: no other", x.unlike(0, -1), -1);
    }

    static void promise16() {
        CoalForm x = example();
        Check.due("16: node 1", x.spoiled(0, 0), 2);
        Check.law(x, "1:a&b");
        Check.due("16: nodes 1 and 3", x.spoiled(0, 1), 10);
        Check.law(x, "1:a&buc");
        Check.due("16: node 3 alone", x.spoiled(0, 2), 8);
        Check.due("16: no form", x.spoiled(1, 0), -1);
        Check.due("16: no law", x.spoiled(0, 3), -1);
        Check.form(x, "a>1,=1;a>2,=5;b>=1,=1");
        Check.law(x, "1:a|!a");
        Check.due("16: a target to which nothing leads", x.spoiled(1, 3), 0);
    }

    static void promise17() {
        CoalForm x = example();
        Check.due("17: all are used", x.unused(0), 0);
        Check.form(x, "a>1,3;a>=1,2;b>=1,=2;b>=1,=2;c>=1,=1");
        Check.due("17: behind a twice, and by nothing", x.unused(1), 20);
        Check.due("17: no form", x.unused(2), -1);
        Check.due("17: below", x.unused(-1), -1);
    }

    static void promise25() {
        CoalForm x = example();
        Check.due("25: no sorts", x.cost(0), 0);
        x.sort(2);
        x.chance(0, 0, 8);
        x.set(0, 0, 3);
        x.set(0, 2, 7);
        // 2000 by 3; a 1600 by 7, not c 800 by 1; not a 400 by 7
        Check.due("25: cost", x.cost(0), 6000 + 11200 + 800 + 2800);
        Check.form(x, "a>1,=1;a>2,2;b>=1,=1");
        // 2000 by 3; a 1600 by 3 once more; then b 1600
        Check.due("25: asked again", x.cost(1), 6000 + 4800 + 1600);
        x.sort(1);
        Check.due("25: two sorts", x.cost(1), 6000 + 4800 + 1600 + 3000 + 1500 + 500);
        Check.due("25: no form", x.cost(2), -1);
        Check.due("25: below", x.cost(-1), -1);
    }

    static void promise26() {
        CoalForm x = example();
        Check.due("26: three asked", x.longest(0), 3);
        x.set(0, 2, 7);
        Check.due("26: by minutes", x.longest(0), 9);
        Check.form(x, "a>1,=1;a>=1,2;b>3,=1;b>=2,=2");
        x.set(0, 0, 10);
        x.set(0, 1, 99);
        Check.due("26: ways that no case goes do not count", x.longest(1), 20);
        Check.form(x, "b>1,1;b>=2,=2");
        Check.due("26: asked twice counts twice", x.longest(2), 198);
        Check.due("26: no form", x.longest(3), -1);
        Check.due("26: below", x.longest(-1), -1);
    }

    static void promise29() {
        CoalForm x = new CoalForm(3);
        Check.law(x, "1:a&b;2:cua");
        Check.form(x, "a>1,2;b>=1,=-;c>=2,=-");
        Check.due("29: all right", x.off(0, 0, 3), 0);
        x.set(3, 0, 1);
        x.set(3, 1, 2);
        // case 3 is right by a and b alone
        Check.due("29: case 3", x.off(0, 0, 3), 1000000000000L - 720000000000L);
        // case 0: a wrong and b wrong
        Check.due("29: case 0", x.off(0, 0, 0), 20000000000L);
        Check.law(x, "0:a|!a");
        Check.due("29: always off", x.off(0, 1, 0), 1000000000000L);
        Check.form(x, "a>1,=-;a>=-,=1");
        // case 5 says nothing: off if it is first rightly so, then wrongly not
        Check.due("29: each asking by itself", x.off(1, 0, 5), 90000000000L);
        Check.form(x, "a>1,1;a>2,2;a>3,3;a>4,4;a>5,5;a>6,6;a>7,7;a>8,8;a>9,9;a>10,10;a>11,11;a>=0,=5");
        Check.due("29: twelve on one way", x.off(2, 1, 1), 100000000000L);
        Check.form(x, "a>=0,1;a>=0,2;a>=0,3;a>=0,4;a>=0,5;a>=0,6;a>=0,7;a>=0,8;a>=0,9;a>=0,10;a>=0,11;a>=0,=5");
        Check.due("29: twelve times wrong", x.off(3, 1, 1), 1);
        Check.due("29: no form", x.off(4, 0, 0), -1);
        Check.due("29: no law", x.off(0, 2, 0), -1);
        Check.due("29: no case", x.off(0, 0, 8), -1);
        Check.due("29: below", x.off(0, 0, -1), -1);
        x.set(3, 0, 10);
        Check.due("29: always wrong", x.off(0, 1, 0), 1000000000000L);
    }

    static void promise30() {
        CoalForm x = new CoalForm(3);
        Check.law(x, "1:a&b;2:cua");
        Check.form(x, "a>1,2;b>=1,=-;c>=2,=-");
        Check.due("30: none is wrong: the lowest", x.weak(0, 0), 0);
        x.set(3, 2, 3);
        Check.due("30: c", x.weak(0, 0), 2);
        x.set(3, 1, 3);
        Check.due("30: b and c are one as bad as the other", x.weak(0, 0), 1);
        x.set(3, 1, 4);
        x.set(3, 2, 5);
        Check.due("30: c is worse", x.weak(0, 0), 2);
        x.set(3, 0, 5);
        Check.due("30: a is worst", x.weak(0, 0), 0);
        Check.due("30: no form", x.weak(1, 0), -1);
        Check.due("30: no law", x.weak(0, 1), -1);
        Check.due("30: below", x.weak(-1, 0), -1);
    }
}
