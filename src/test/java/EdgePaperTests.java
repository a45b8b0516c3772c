/** The boundaries that promises 27, 28 and 40 name: all on one page, and what some answers tell. */
final class EdgePaperTests {
    private EdgePaperTests() {
    }

    static void all() {
        noSetDoes();
        leastMinutes();
        ofSeveral();
        tells();
        noSuchQuestion();
        givenAnswers();
        within();
        howManyCases();
        ask();
        askOfSeveral();
        noSuchOnes();
    }

    private static CoalForm of(int facts, String law, String... questions) {
        CoalForm x = new CoalForm(facts);
        Check.due("a law is taken: " + law, Check.law(x, law), 0);
        for (String question : questions) {
            Check.due("a question is taken: " + question, Check.question(x, question) >= 0, true);
        }
        return x;
    }

    // ---- promise 27 ----

    private static void noSetDoes() {
        Edge edge = Edge.of(27, "PAGE, as bits. NONE: no set does, no such LAW.");
        CoalForm x = of(9, "1:a&b&c&d&e&f&g&h&i");
        edge.due("no questions, but one is needed", x.page(0), -1);
        Check.law(x, "1:a|!a");
        edge.due("no questions, and none is needed", x.page(1), 0);
        Check.law(x, "1:a&!a");
        edge.due("nothing is told by nothing", x.page(2), 0);
        for (int f = 0; f < 8; f++) {
            Check.question(x, "" + (char) ('a' + f));
        }
        edge.due("eight of nine are too few", x.page(0), -1);
        Check.question(x, "b");
        edge.due("nine that do not tell of i", x.page(0), -1);
        Check.question(x, "i");
        edge.due("with the tenth all but one are needed", x.page(0), 255 + 512);
        edge.due("none is needed yet", x.page(1), 0);
        edge.refused("the first law: two questions do not tell of a without c", -1, y -> y.page(0));
        edge.refused("a law behind the last", -1, y -> y.page(3));
        edge.refused("a law ahead of the first", -1, y -> y.page(-1));
        for (int far : Edge.FAR) {
            edge.refused("a law far: " + far, -1, y -> y.page(far));
        }
        CoalForm all = of(4, "0:a&b&c&d;1:a&b&c;2:a&b;3:a;4:b;5:c", "a", "a&!a", "b", "!b&b", "a|!a", "c", "1#a",
                "d&c", "b|!b", "d");
        edge.due("all that is needed among ten", all.page(0), 1 + 4 + 32 + 128);
    }

    private static void leastMinutes() {
        Edge edge = Edge.of(27, "the set with the least MINUTES together, of several the fewest");
        CoalForm x = of(2, "1:a&b;2:a;3:b", "a", "b", "a&b", "a|b");
        edge.due("two", x.page(0), 3);
        x.set(1, 0, 99);
        edge.due("by others", x.page(0), 2 + 4 + 8);
        x.set(1, 1, 99);
        edge.due("as dear with the first or the second", x.page(0), 1 + 4 + 8);
        CoalForm y = of(2, "1:a&b", "a", "b", "a&b");
        edge.due("one of a minute", y.page(0), 4);
        y.set(1, 2, 2);
        edge.due("one of two minutes, or two of one each: the fewest", y.page(0), 4);
        y.set(1, 2, 3);
        edge.due("one of three minutes, or two of one each", y.page(0), 3);
        CoalForm z = of(9, "1:i", "i");
        for (int k = 1; k < 10; k++) {
            Check.question(z, "i");
        }
        for (int k = 0; k < 9; k++) {
            z.set(1, k, 99);
        }
        edge.due("the last is the cheapest", z.page(0), 512);
    }

    private static void ofSeveral() {
        Edge edge = Edge.of(27, "then that with the lower QUESTION where two first differ");
        CoalForm x = of(1, "1:a", "a", "!a", "a|a");
        edge.due("the first of three", x.page(0), 1);
        x.set(1, 0, 2);
        edge.due("the second of three", x.page(0), 2);
        CoalForm y = of(4, "1:a&d;2:a;3:d", "a", "a&!d", "d&!a", "d", "a&d");
        edge.due("a and d", y.page(0), 1 + 8);
        CoalForm z = of(2, "1:a&b;2:a;3:b", "a", "a&b|!a&!b", "!b", "b");
        edge.due("the first two", z.page(0), 3);
        z.set(1, 0, 3);
        edge.due("the second and the third, not the fourth", z.page(0), 6);
        CoalForm u = of(2, "1:a&b;2:a;3:b", "b", "!a", "a", "!b");
        edge.due("the first and the second", u.page(0), 3);
        u.set(1, 0, 2);
        edge.due("the second and the fourth", u.page(0), 10);
        u.set(1, 3, 2);
        edge.due("the first and the second, as dear as the fourth", u.page(0), 3);
    }

    // ---- promise 28 ----

    private static void tells() {
        Edge edge = Edge.of(28, "TELLS: of how many pairs of CASES, on which the LAW SAYS unlike things, a QUESTION parts both.");
        CoalForm x = of(9, "0:a", "a", "!a", "b", "a|!a", "a&!a", "a&b&c&d&e&f&g&h&i");
        Check.law(x, "0:a|!a");
        edge.due("all such pairs, 0 from nothing", x.tells(0, 0), 256 * 256);
        edge.due("the other way round", x.tells(1, 0), 256 * 256);
        edge.due("half of them", x.tells(2, 0), 2 * 128 * 128);
        edge.due("always so: none", x.tells(3, 0), 0);
        edge.due("never so: none", x.tells(4, 0), 0);
        edge.due("one case from those on which it says nothing", x.tells(5, 0), 256);
        edge.due("no such pairs", x.tells(0, 1), 0);
        CoalForm y = of(2, "1:a&b;2:a;3:b", "a&b", "a");
        edge.due("each of four says another thing: one from three", y.tells(0, 0), 3);
        edge.due("two from two", y.tells(1, 0), 4);
        CoalForm z = of(2, "5:a&b;0:a", "a", "b");
        edge.due("5 and 0 from nothing", z.tells(0, 0), 4);
        edge.due("5 from 0 and nothing, not nothing from nothing", z.tells(1, 0), 3);
    }

    private static void noSuchQuestion() {
        Edge edge = Edge.of(28, "TELLS. NONE: no such ones.");
        CoalForm x = of(2, "1:a");
        for (int k = 0; k < 10; k++) {
            edge.due("question " + k + " is not there yet", x.tells(k, 0), -1);
            Check.question(x, "a");
            edge.due("question " + k + " is there", x.tells(k, 0), 4);
        }
        edge.due("ten are the most", x.tells(10, 0), -1);
        edge.refused("the last of both", 8, y -> y.tells(2, 2));
        edge.refused("a question behind the last", -1, y -> y.tells(3, 0));
        edge.refused("a law behind the last", -1, y -> y.tells(0, 3));
        edge.refused("a question ahead of the first", -1, y -> y.tells(-1, 0));
        edge.refused("a law ahead of the first", -1, y -> y.tells(0, -1));
        for (int far : Edge.FAR) {
            edge.refused("a question far: " + far, -1, y -> y.tells(far, 0));
            edge.refused("a law far: " + far, -1, y -> y.tells(0, far));
        }
    }

    // ---- promise 40 ----

    private static void givenAnswers() {
        Edge edge = Edge.of(40, "GIVEN: what it SAYS (what 0; HIDDEN: open, no such CASE)");
        CoalForm x = of(2, "0:a;1:b", "a", "b", "a&b", "a|b");
        edge.due("nothing is asked: open", x.given(0, 0, 0, 0), -2);
        edge.due("one thing, 0", x.given(0, 1, 1, 0), 0);
        edge.due("one thing or nothing: open", x.given(0, 1, 0, 0), -2);
        edge.due("two things: open", x.given(0, 2, 2, 0), -2);
        edge.due("nothing", x.given(0, 8, 0, 0), -1);
        edge.due("nothing, all asked", x.given(0, 15, 0, 0), -1);
        edge.due("one thing, all asked", x.given(0, 15, 10, 0), 1);
        edge.due("no such case, all asked", x.given(0, 15, 7, 0), -2);
        edge.due("no such case", x.given(0, 5, 4, 0), -2);
        CoalForm y = of(1, "5:a|!a");
        edge.due("nothing is asked: one thing", y.given(0, 0, 0, 0), 5);
        edge.due("nothing is asked: all cases", y.given(0, 0, 0, 1), 2);
    }

    private static void within() {
        Edge edge = Edge.of(40, "GIVEN some QUESTIONS and how they were answered (bits within)");
        CoalForm x = of(1, "1:a");
        for (int k = 0; k < 10; k++) {
            edge.due("question " + k + " is not there yet", x.given(0, 1 << k, 0, 1), -2);
            Check.question(x, "a");
            edge.due("question " + k + " is there", x.given(0, 1 << k, 0, 1), 1);
            edge.due("and its answer", x.given(0, 1 << k, 1 << k, 0), 1);
        }
        edge.due("all ten", x.given(0, 1023, 1023, 0), 1);
        edge.due("ten are the most", x.given(0, 1024, 0, 1), -2);
        edge.due("an answer to one not asked", x.given(0, 1022, 1, 1), -2);
        edge.due("an eleventh answer", x.given(0, 1023, 1024, 1), -2);
        for (int what = 0; what < 3; what++) {
            int asked = what;
            edge.refused("a question behind the last, " + what, -2, y -> y.given(0, 8, 0, asked));
            edge.refused("questions below 0, " + what, -2, y -> y.given(0, -1, 0, asked));
            edge.refused("an answer to one not asked, " + what, -2, y -> y.given(0, 6, 1, asked));
            edge.refused("one answer more, " + what, -2, y -> y.given(0, 6, 7, asked));
            edge.refused("answers below 0, " + what, -2, y -> y.given(0, 7, -1, asked));
            for (int far : Edge.FAR) {
                edge.refused("questions far: " + far + ", " + what, -2, y -> y.given(0, far, 0, asked));
                edge.refused("answers far: " + far + ", " + what, -2, y -> y.given(0, 7, far, asked));
            }
        }
    }

    private static void howManyCases() {
        Edge edge = Edge.of(40, "how many such CASES there are");
        CoalForm x = of(9, "1:a", "a&!a", "a&b&c&d&e&f&g&h&i", "i");
        edge.due("all", x.given(0, 0, 0, 1), 512);
        edge.due("none", x.given(0, 1, 1, 1), 0);
        edge.due("all, as it is never so", x.given(0, 1, 0, 1), 512);
        edge.due("one", x.given(0, 2, 2, 1), 1);
        edge.due("all but one", x.given(0, 2, 0, 1), 511);
        edge.due("half", x.given(0, 4, 4, 1), 256);
        edge.due("none with that one", x.given(0, 6, 2, 1), 0);
    }

    private static void ask() {
        Edge edge = Edge.of(40, "if there are such CASES and the LAW is not told by the answers yet");
        CoalForm x = of(2, "0:a;1:b", "a", "b", "a&b");
        edge.due("it is not told", x.given(0, 0, 0, 2), 0);
        edge.due("it is told", x.given(0, 1, 1, 2), -1);
        edge.due("it is told with nothing", x.given(0, 3, 0, 2), -1);
        edge.due("it is not told yet", x.given(0, 1, 0, 2), 1);
        edge.due("not told, and one case or another", x.given(0, 2, 2, 2), 0);
        edge.due("there is no such case", x.given(0, 5, 4, 2), -1);
        Edge none = Edge.of(40, "ASK (2; NONE: none, told)");
        CoalForm y = of(2, "1:a", "b", "!b");
        none.due("none is left, though it is not told", y.given(0, 3, 1, 2), -1);
        none.due("one is left", y.given(0, 1, 1, 2), 1);
        none.due("the other is left", y.given(0, 2, 0, 2), 0);
        none.due("none is there", of(1, "1:a").given(0, 0, 0, 2), -1);
        none.due("it is told ahead of all", of(1, "1:a|!a", "a").given(0, 0, 0, 2), -1);
    }

    private static void askOfSeveral() {
        Edge edge = Edge.of(40, "by which the most CASES in the worse of both answers are fewest (of several the lowest)");
        CoalForm x = of(3, "1:a&b&c", "a&b&c", "a&b", "a", "b");
        edge.due("the first that halves", x.given(0, 0, 0, 2), 2);
        edge.due("the next one that halves", x.given(0, 4, 4, 2), 1);
        edge.due("six to two, or seven to one", of(3, "1:a", "a&b&c", "b&c").given(0, 0, 0, 2), 1);
        edge.due("as bad the other way round", of(3, "1:a", "!(b&c)", "b&c").given(0, 0, 0, 2), 0);
        edge.due("none parts: the lowest", of(3, "1:a", "a&!a", "a|!a").given(0, 0, 0, 2), 0);
        edge.due("one parts", of(3, "1:a", "a&!a", "a&b&c").given(0, 0, 0, 2), 1);
        CoalForm y = of(1, "1:a", "a&!a");
        for (int k = 1; k < 9; k++) {
            Check.question(y, "a|!a");
        }
        Check.question(y, "a");
        edge.due("the tenth", y.given(0, 0, 0, 2), 9);
        edge.due("not one that was asked", y.given(0, 1, 0, 2), 9);
    }

    private static void noSuchOnes() {
        Edge edge = Edge.of(40, "HIDDEN: no such ones.");
        edge.refused("what 0", 1, y -> y.given(0, 1, 1, 0));
        edge.refused("what 1", 2, y -> y.given(0, 1, 1, 1));
        edge.refused("what 2", -1, y -> y.given(0, 1, 1, 2));
        edge.refused("what 3", -2, y -> y.given(0, 1, 1, 3));
        edge.refused("what -1", -2, y -> y.given(0, 1, 1, -1));
        edge.refused("the last law", 3, y -> y.given(2, 1, 1, 0));
        for (int what = 0; what < 3; what++) {
            int asked = what;
            edge.refused("a law behind the last, " + what, -2, y -> y.given(3, 1, 1, asked));
            edge.refused("a law ahead of the first, " + what, -2, y -> y.given(-1, 1, 1, asked));
        }
        for (int far : Edge.FAR) {
            edge.refused("a law far: " + far, -2, y -> y.given(far, 1, 1, 0));
            edge.refused("a what far: " + far, -2, y -> y.given(0, 1, 1, far));
        }
    }
}
