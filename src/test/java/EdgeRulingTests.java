/** The boundaries that promises 36 to 38 name: rulings, those against, the cure. */
final class EdgeRulingTests {
    private EdgeRulingTests() {
    }

    static void all() {
        atMostTwenty();
        rulingsOrNone();
        against();
        cures();
        curesOfSeveral();
        noSuchLaw();
    }

    private static CoalForm of(int facts, String... laws) {
        CoalForm x = new CoalForm(facts);
        for (String law : laws) {
            Check.due("a law is taken: " + law, Check.law(x, law) >= 0, true);
        }
        return x;
    }

    // ---- promise 36 ----

    private static void atMostTwenty() {
        Edge edge = Edge.of(36, "RULINGS (20 at most): on a CASE what should be SAID (0 .. 5, or nothing).");
        CoalForm x = of(9, "1:i");
        for (int k = 1; k <= 20; k++) {
            edge.due("one more", x.ruling(511, 0), k);
            edge.due("so many", x.count(6), k);
            edge.due("all of them are against", x.against(0), (1 << k) - 1);
        }
        edge.due("a twenty-first", x.ruling(511, 1), -1);
        edge.due("twenty yet", x.count(6), 20);
        edge.due("the same twenty", x.against(0), (1 << 20) - 1);
        edge.refusedAfter("a twenty-first, behind other things", -1, EdgeRulingTests::fill, y -> y.ruling(0, 0));
        CoalForm y = of(2, "0:a&b;5:a");
        edge.due("0 on both", y.ruling(3, 0), 1);
        edge.due("5 on a", y.ruling(1, 5), 2);
        edge.due("nothing on none", y.ruling(0, -1), 3);
        edge.due("none is against", y.against(0), 0);
        edge.due("the same case once more", y.ruling(3, 1), 4);
        edge.due("it is a ruling of its own", y.against(0), 8);
    }

    private static void fill(CoalForm x) {
        for (int k = x.count(6); k < 20; k++) {
            x.ruling(k % 8, k % 7 - 1);
        }
    }

    private static void rulingsOrNone() {
        Edge edge = Edge.of(36, "A RULING: how many there are. NONE: no such ones (outcome NONE, 0 .. 5), there are 20.");
        for (int facts = 1; facts <= 9; facts++) {
            CoalForm x = new CoalForm(facts);
            edge.due("the first case of " + facts + " facts", x.ruling(0, 1), 1);
            edge.due("the last case of " + facts + " facts", x.ruling((1 << facts) - 1, 1), 2);
            edge.due("the case behind of " + facts + " facts", x.ruling(1 << facts, 1), -1);
            edge.due("so many are there", x.count(6), 2);
        }
        for (int outcome = -1; outcome <= 5; outcome++) {
            edge.due("outcome " + outcome, new CoalForm(1).ruling(0, outcome), 1);
        }
        edge.refused("outcome 6", -1, y -> y.ruling(0, 6));
        edge.refused("outcome -2", -1, y -> y.ruling(0, -2));
        edge.refused("a case behind the last", -1, y -> y.ruling(8, 1));
        edge.refused("a case ahead of the first", -1, y -> y.ruling(-1, 1));
        for (int far : Edge.FAR) {
            edge.refused("an outcome far: " + far, -1, y -> y.ruling(0, far));
            edge.refused("a case far: " + far, -1, y -> y.ruling(far, 1));
        }
    }

    // ---- promise 37 ----

    private static void against() {
        Edge edge = Edge.of(37, "AGAINST: those of which the LAW SAYS otherwise.");
        CoalForm x = of(1, "0:a", "1:a", "0:!a");
        edge.due("no rulings", x.against(0), 0);
        x.ruling(1, 0);
        edge.due("one, that is not against", x.against(0), 0);
        edge.due("one, that is", x.against(1), 1);
        edge.due("nothing for 0", x.against(2), 1);
        x.ruling(0, -1);
        edge.due("two, neither against", x.against(0), 0);
        edge.due("0 for nothing", x.against(2), 3);
        for (int k = 2; k < 20; k++) {
            x.ruling(1, k == 19 ? 1 : 0);
        }
        edge.due("the twentieth alone", x.against(0), 1 << 19);
        edge.due("all but two", x.against(1), (1 << 20) - 1 - 2 - (1 << 19));
        edge.due("all twenty", x.against(2), (1 << 20) - 1);
    }

    // ---- promise 38 ----

    private static void cures() {
        Edge edge = Edge.of(38, "CURE: the fewest CLAUSES of it to be struck so that none is against");
        CoalForm x = of(1, "1:a;".repeat(11) + "1:a", "1:a;".repeat(11) + "2:a", "1:!a;".repeat(11) + "2:a", "0:!a;1:a", "1:a");
        for (int law = 0; law < 5; law++) {
            edge.due("no rulings, law " + law, x.cure(law), 0);
        }
        x.ruling(1, 1);
        int[] once = {0, 0, -1, 0, 0};
        for (int law = 0; law < 5; law++) {
            edge.due("one ruling, law " + law, x.cure(law), once[law]);
        }
        CoalForm y = of(1, "1:a;".repeat(11) + "1:a", "1:a;".repeat(11) + "2:a", "1:!a;".repeat(11) + "2:a", "0:!a;1:a", "0:a");
        y.ruling(1, -1);
        int[] all = {4095, 4095, 2048, 2, 1};
        for (int law = 0; law < 5; law++) {
            edge.due("nothing where something is said, law " + law, y.cure(law), all[law]);
        }
        y.ruling(0, 0);
        int[] then = {-1, -1, -1, 2, -1};
        for (int law = 0; law < 5; law++) {
            edge.due("and 0 else, law " + law, y.cure(law), then[law]);
        }
        CoalForm z = of(1, "1:a;".repeat(11) + "2:a");
        z.ruling(1, 2);
        edge.due("all but the twelfth", z.cure(0), 2047);
        z.ruling(1, 1);
        edge.due("two rulings on one case can't both be", z.cure(0), -1);
    }

    /** Each clause that must be struck is struck in all such sets, so that there never are several: the one is due. */
    private static void curesOfSeveral() {
        Edge edge = Edge.of(38, "(of several sets that with the lower CLAUSE where two first differ)");
        CoalForm x = of(3, "1:a;2:a&b;3:b", "1:a&b;1:a;2:c;1:b&c", "0:a|!a");
        x.ruling(3, 3);
        edge.due("both ahead of the third", x.cure(0), 3);
        CoalForm y = of(3, "1:a&b;0:a;1:b", "2:c;0:a;1:b");
        y.ruling(3, 0);
        edge.due("the first, not the third", y.cure(0), 1);
        y.ruling(5, 0);
        edge.due("the first of another", y.cure(1), 1);
        CoalForm z = of(2, "1:a&b;2:a;1:b;3:a&b", "3:a;1:a&b;3:b");
        z.ruling(2, -1);
        edge.due("the third alone", z.cure(0), 4);
        edge.due("the third alone too", z.cure(1), 4);
        Edge none = Edge.of(38, "CURE, as bits. NONE: no set does, no such LAW.");
        none.due("another law can't be", x.cure(1), -1);
        none.due("nor one of one clause", x.cure(2), -1);
        z.ruling(3, 3);
        none.due("but this", z.cure(0), 7);
        none.due("and this", z.cure(1), 4);
    }

    private static void noSuchLaw() {
        Edge against = Edge.of(37, "AGAINST, as bits. NONE: no such LAW.");
        Edge cure = Edge.of(38, "CURE, as bits. NONE: no set does, no such LAW.");
        against.refused("the first law", 0, y -> y.against(0));
        against.refused("the last law", 3, y -> y.against(2));
        cure.refused("the first law", 0, y -> y.cure(0));
        cure.refused("the last law: no set does", -1, y -> y.cure(2));
        against.refused("a law behind the last", -1, y -> y.against(3));
        against.refused("a law ahead of the first", -1, y -> y.against(-1));
        cure.refused("a law behind the last", -1, y -> y.cure(3));
        cure.refused("a law ahead of the first", -1, y -> y.cure(-1));
        for (int far : Edge.FAR) {
            against.refused("a law far: " + far, -1, y -> y.against(far));
            cure.refused("a law far: " + far, -1, y -> y.cure(far));
        }
    }
}
