/** Promises 1 to 5 and 44: objects, the tape, faults and texts. */
final class TextTests {
    private TextTests() {
    }

    static void all() {
        promise1();
        promise2();
        promise3();
        faultsOfLaws();
        faultsOfConditions();
        faultsOfQuestions();
        faultsOfForms();
        promise5();
        promise44();
    }

    static void promise1() {
        int[] asked = {Integer.MIN_VALUE, -1, 0, 1, 2, 8, 9, 10, Integer.MAX_VALUE};
        int[] due = {1, 1, 1, 1, 2, 8, 9, 9, 9};
        for (int k = 0; k < asked.length; k++) {
            CoalForm x = new CoalForm(asked[k]);
            Check.due("1: facts of " + asked[k], x.count(4), due[k]);
            Check.due("1: lowest law's last case", sayOrThrow(x, "5:a|!a", (1 << due[k]) - 1), 5);
            Check.due("1: the case behind", sayOrThrow(x, "5:a|!a", 1 << due[k]), -9);
        }
    }

    private static int sayOrThrow(CoalForm x, String law, int cases) {
        int number = Check.law(x, law);
        try {
            return x.says(number, cases);
        } catch (java.util.NoSuchElementException none) {
            return -9;
        }
    }

    static void promise2() {
        CoalForm x = new CoalForm(3);
        Check.due("2: nothing", x.feed(0, 0, 0, 0, 0), 0);
        Check.due("2: highest first", x.feed(0x61007c00, 0, 0, 0, 0x62), 3);
        Check.due("2: a|b is no fault", x.fault(1), -1);
        Check.due("2: in that order", x.text(1), 0);
        Check.due("2: question a|b", x.given(Check.law(x, "1:a"), 1, 0, 1), 2);
        x.end(0);
        for (int k = 1; k <= 8; k++) {
            Check.due("2: twenty more", x.feed(-1, -1, -1, -1, -1), 20 * k);
        }
        Check.due("2: one too many", x.feed(0, 0, 0, 0, 1), -1);
        Check.due("2: none more may come", x.feed(0, 0, 0, 0, 0), 160);
        Check.due("2: refused changes nothing", x.count(5), 160);
        Check.due("2: cut to 141", x.end(141), true);
        Check.due("2: twenty do not fit", x.feed(-1, -1, -1, -1, -1), -1);
        Check.due("2: nineteen do", x.feed(-1, -1, -1, -1, 0x00ffffff), 160);
    }

    static void promise3() {
        CoalForm x = new CoalForm(3);
        Check.put(x, "1:abc");
        Check.due("3: below 0", x.end(-1), false);
        Check.due("3: lowest", x.end(Integer.MIN_VALUE), false);
        Check.due("3: more than there are", x.end(6), false);
        Check.due("3: nothing changed", x.count(5), 5);
        Check.due("3: all", x.end(5), true);
        Check.due("3: the first three", x.end(3), true);
        Check.due("3: they are left", x.text(0), 0);
        Check.due("3: none of none", x.end(0), true);
        Check.due("3: one of none", x.end(1), false);
    }

    private static void fault(int facts, int sort, String text, int due) {
        Check.due("4: fault " + sort + " of " + text, Check.faultOf(new CoalForm(facts), sort, text), due);
    }

    private static String repeated(String part, int times) {
        return part.repeat(times);
    }

    static void faultsOfLaws() {
        fault(3, 0, "", 0);
        fault(3, 0, "   ", 3);
        fault(3, 0, " 1 : a u b ; 0 : c ", -1);
        fault(3, 0, "5:a", -1);
        fault(3, 0, "6:a", 0);
        fault(3, 0, "-:a", 0);
        fault(3, 0, "12:a", 1);
        fault(3, 0, "1;a", 1);
        fault(3, 0, "1:", 2);
        fault(3, 0, "1: ;", 3);
        fault(3, 0, "1:au", 4);
        fault(3, 0, "1:aubuc", 5);
        fault(3, 0, "1:aub;", 6);
        fault(3, 0, "1:a;;", 4);
        fault(3, 0, "1:a,", 3);
        fault(1, 0, repeated("1:a;", 11) + "1:a", -1);
        fault(1, 0, repeated("1:a;", 11) + "1:a;", 47);
        fault(1, 0, repeated("1:a;", 11) + "1:a ;1:a", 48);
        fault(1, 0, repeated("1:a;", 11) + "1:a:", 47);
        for (int sort : new int[] {-1, 3, Integer.MIN_VALUE, Integer.MAX_VALUE}) {
            fault(3, sort, "a", -2);
        }
    }

    static void faultsOfConditions() {
        fault(3, 1, "a&b|!c&(a|b)", -1);
        fault(3, 1, "d", 0);
        fault(4, 1, "d", -1);
        fault(9, 1, "i", -1);
        fault(9, 1, "j", 0);
        fault(3, 1, "A", 0);
        fault(3, 1, "a" + (char) 233, 1);
        fault(3, 1, "ab", 1);
        fault(3, 1, "a&|b", 2);
        fault(3, 1, "a|", 2);
        fault(3, 1, "!", 1);
        fault(3, 1, "()", 1);
        fault(3, 1, "(a", 2);
        fault(3, 1, "(a;", 2);
        fault(3, 1, "(a))", 3);
        fault(3, 1, "2#abc", -1);
        fault(3, 1, "9#a", -1);
        fault(3, 1, "2# a b |c", -1);
        fault(3, 1, "0#ab", 0);
        fault(3, 1, "2", 1);
        fault(3, 1, "2 #ab", 1);
        fault(3, 1, "22#ab", 1);
        fault(3, 1, "2#", 2);
        fault(3, 1, "2#&", 2);
        fault(3, 1, "2#abd", 4);
        fault(3, 1, "2#aba", 4);
        fault(3, 1, "2#ab a", 5);
        fault(9, 1, "9#abcdefghi", -1);
        fault(9, 1, "9#abcdefghia", 11);
        fault(3, 1, "!!!!!!a", -1);
        fault(3, 1, "!!!!!!!a", 6);
        fault(3, 1, "((((((a))))))", -1);
        fault(3, 1, "(((((((a)))))))", 6);
        fault(3, 1, "!(!(!(a|!b)))", 8);
        fault(3, 1, "!(!(!(a)))|!!!!!!b", -1);
    }

    static void faultsOfQuestions() {
        fault(3, 1, "", 0);
        fault(3, 1, " a ", -1);
        fault(3, 1, repeated(" ", 160), 160);
        fault(3, 1, repeated(" ", 159) + "a", -1);
        fault(3, 1, repeated("a&", 79) + "!a", -1);
        fault(3, 1, repeated("a|", 80), 160);
        fault(3, 1, "aub", 1);
        fault(3, 1, "a;b", 1);
        fault(3, 1, "1:a", 1);
    }

    static void faultsOfForms() {
        fault(3, 2, "", 0);
        fault(3, 2, "a>=1,=-", -1);
        fault(3, 2, " a > = 1 , = - ", -1);
        fault(3, 2, "d>=1,=-", 0);
        fault(3, 2, "a=", 1);
        fault(3, 2, "a>a", 2);
        fault(3, 2, "a>=6", 3);
        fault(3, 2, "a>=11", 4);
        fault(3, 2, "a>-,=1", 2);
        fault(3, 2, "a>=1;", 4);
        fault(3, 2, "a>=1,", 5);
        fault(3, 2, "a>=1,=2;", 8);
        fault(3, 2, "a>=1,=2,", 7);
        fault(3, 2, "a>1,=2", 6);
        fault(3, 2, "a>1,=2  ", 8);
        fault(3, 2, "a>1,=2;b>=1,=2", -1);
        fault(3, 2, "a>01,=2;b>=1,=2", -1);
        fault(3, 2, "a>2,=2;b>=1,=2", 14);
        fault(3, 2, "a>0,=2", 2);
        fault(3, 2, "a>00,=2", 3);
        fault(3, 2, "a>1,=2;b>1,=2", 9);
        fault(3, 2, "a>1 1,=2", 4);
        fault(3, 2, "a>12,=2", 3);
        fault(3, 2, "a>99", 3);
        fault(3, 2, "a>110,=2", 4);
        fault(3, 2, "a>001,=2", 4);
        fault(3, 2, "a>11,=2", 7);
        fault(3, 2, "a>1", 3);
        String eleven = repeated("a>11,=2;", 11);
        fault(3, 2, eleven + "b>=1,=-", -1);
        fault(3, 2, eleven + "b>11,=-", 91);
        fault(3, 2, eleven + "b>=1,=-;", 95);
        fault(3, 2, eleven + "b>=1,=-;a", 95);
    }

    static void promise5() {
        CoalForm x = new CoalForm(2);
        Check.due("5: a fault", Check.law(x, "1:"), -1);
        Check.due("5: it stays", x.count(5), 2);
        Check.due("5: no such sort", Check.add(x, 3, "1:a"), -1);
        Check.due("5: none below", x.text(-1), -1);
        Check.due("5: it stays there too", x.count(5), 3);
        for (int k = 0; k < 6; k++) {
            Check.due("5: law", Check.law(x, "1:a"), k);
            Check.due("5: the tape is empty then", x.count(5), 0);
            Check.due("5: form", Check.form(x, "a>=1,=2"), k);
        }
        for (int k = 0; k < 10; k++) {
            Check.due("5: question", Check.question(x, "a&b"), k);
        }
        Check.due("5: six laws", Check.law(x, "2:a"), -1);
        Check.due("5: no more laws", x.count(0), 6);
        Check.due("5: ten questions", Check.question(x, "a"), -1);
        Check.due("5: six forms", Check.form(x, "a>=1,=3"), -1);
        Check.due("5: refused it stays", x.count(5), 7);
        Check.due("5: nothing of it is kept", x.leads(5, 0), 2);
    }

    static void promise44() {
        CoalForm x = new CoalForm(7);
        Check.law(x, "1:a");
        Check.law(x, "1:b");
        for (int k = 0; k < 3; k++) {
            Check.question(x, "a");
        }
        for (int k = 0; k < 4; k++) {
            Check.form(x, "a>=1,=2");
        }
        x.sort(3);
        for (int k = 0; k < 5; k++) {
            x.ruling(0, 1);
        }
        Check.put(x, "abcdef");
        int[] due = {2, 3, 4, 1, 7, 6, 5};
        for (int what = 0; what < due.length; what++) {
            Check.due("44: count " + what, x.count(what), due[what]);
        }
        for (int what : new int[] {-1, 7, Integer.MIN_VALUE, Integer.MAX_VALUE}) {
            Check.due("44: no count " + what, x.count(what), -1);
        }
    }
}
