/** Promises 27, 28 and 40: all on one page, and what is told by some answers. */
final class PaperTests {
    private PaperTests() {
    }

    static void all() {
        promise27();
        promise28();
        promise40();
        pageOfMany();
    }

    static void promise27() {
        CoalForm x = new CoalForm(3);
        Check.law(x, "1:a&b;2:cua");
        Check.due("27: no questions", x.page(0), -1);
        Check.law(x, "3:a|!a");
        Check.due("27: nothing need be asked", x.page(1), 0);
        Check.question(x, "a&b&c");
        Check.question(x, "a");
        Check.question(x, "c&!a");
        Check.due("27: these do not tell", x.page(0), -1);
        Check.question(x, "a&b");
        Check.due("27: two do", x.page(0), 12);
        Check.question(x, "b");
        Check.question(x, "c");
        Check.due("27: still two", x.page(0), 12);
        x.set(1, 3, 9);
        Check.due("27: least minutes", x.page(0), 2 + 4 + 16);
        x.set(1, 1, 8);
        Check.due("27: as many minutes: the fewest", x.page(0), 4 + 8);
        x.set(1, 1, 1);
        Check.law(x, "1:a");
        Check.question(x, "!a");
        Check.due("27: the lower", x.page(2), 2);
        x.set(1, 1, 2);
        Check.due("27: the cheaper", x.page(2), 64);
        Check.due("27: no law", x.page(3), -1);
        Check.due("27: below", x.page(-1), -1);
    }

    private static void pageOfMany() {
        CoalForm x = new CoalForm(4);
        Check.law(x, "1:a&d;2:b&c");
        for (String question : new String[] {"b", "a&!d", "c", "a", "d"}) {
            Check.question(x, question);
        }
        Check.due("27: four, with the lower one", x.page(0), 1 + 2 + 4 + 8);
        Check.question(x, "b&c");
        Check.due("27: three are enough", x.page(0), 2 + 8 + 32);
        Check.question(x, "a&d");
        Check.due("27: two are enough", x.page(0), 32 + 64);
        x.set(1, 5, 2);
        Check.due("27: three minutes", x.page(0), 32 + 64);
        x.set(1, 6, 2);
        Check.due("27: four minutes by two, by three, by four", x.page(0), 32 + 64);
        x.set(1, 6, 3);
        Check.due("27: by three then, not by four", x.page(0), 2 + 8 + 32);
    }

    static void promise28() {
        CoalForm x = new CoalForm(3);
        Check.law(x, "1:a&b;2:cua");
        Check.question(x, "c");
        Check.question(x, "a|!a");
        // so: 2, -, 2, 1; not so: -, -, -, 1
        Check.due("28: c", x.tells(0, 0), 2 * 4 + 1 + 3);
        Check.due("28: parts none", x.tells(1, 0), 0);
        Check.due("28: no question", x.tells(2, 0), -1);
        Check.due("28: below", x.tells(-1, 0), -1);
        Check.due("28: no law", x.tells(0, 1), -1);
        Check.due("28: none below", x.tells(0, -1), -1);
        CoalForm nine = new CoalForm(9);
        Check.law(nine, "1:a");
        Check.question(nine, "a");
        Check.due("28: the most", nine.tells(0, 0), 256 * 256);
    }

    static void promise40() {
        CoalForm x = new CoalForm(3);
        Check.law(x, "1:a&b;2:cua");
        Check.due("40: no questions: open", x.given(0, 0, 0, 0), -2);
        Check.due("40: all cases", x.given(0, 0, 0, 1), 8);
        Check.due("40: no question is left", x.given(0, 0, 0, 2), -1);
        Check.due("40: no such question", x.given(0, 1, 0, 1), -2);
        Check.question(x, "a&b&c");
        Check.question(x, "a&b");
        Check.question(x, "!a");
        Check.question(x, "c");
        Check.due("40: the lowest that halves", x.given(0, 0, 0, 2), 2);
        Check.due("40: a", x.given(0, 4, 0, 1), 4);
        Check.due("40: a is open", x.given(0, 4, 0, 0), -2);
        Check.due("40: then b", x.given(0, 4, 0, 2), 1);
        Check.due("40: a and b tell", x.given(0, 6, 2, 0), 1);
        Check.due("40: nothing is told too", x.given(0, 6, 0, 0), -1);
        Check.due("40: told: none to ask", x.given(0, 6, 2, 2), -1);
        Check.due("40: no such case", x.given(0, 6, 6, 1), 0);
        Check.due("40: no such case says nothing", x.given(0, 6, 6, 0), -2);
        Check.due("40: nor asks", x.given(0, 6, 6, 2), -1);
        Check.due("40: told with one left", x.given(0, 14, 4, 2), -1);
        int[][] none = {{1, 0, 0}, {-1, 0, 0}, {0, 16, 0}, {0, -1, 0}, {0, 1, 2}, {0, 0, -1}, {0, 3, 7}};
        for (int[] row : none) {
            for (int what = 0; what < 3; what++) {
                Check.due("40: none " + row[0] + ", " + row[1] + ", " + row[2], x.given(row[0], row[1], row[2], what),
                        -2);
            }
        }
        Check.due("40: no such what", x.given(0, 0, 0, 3), -2);
        Check.due("40: none below", x.given(0, 0, 0, -1), -2);
        Check.law(x, "1:b&!c");
        Check.due("40: neither tells of b", x.given(1, 12, 4, 0), -2);
        Check.due("40: none parts what is left: still the lowest", x.given(1, 12, 4, 2), 0);
    }
}
