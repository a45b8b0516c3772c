import java.util.ArrayList;
import java.util.List;
import java.util.Random;

/**
 * What the promises say of one another, on laws by fixed seeds: answers are held against answers to other calls, or
 * to the same call on a changed text, so that no second implementation takes part.
 */
final class RelationTests {
    private static final int NONE = CoalForm.NONE;
    private static final long CERTAIN = 1000000000000L;

    private final Random random;
    private final int facts;
    private final int cases;
    private final String name;

    private RelationTests(int seed) {
        random = new Random(seed);
        facts = 1 + seed % 4;
        cases = 1 << facts;
        name = "relations " + seed + ": ";
    }

    static void all() {
        for (int seed = 0; seed < 400; seed++) {
            RelationTests tests = new RelationTests(seed);
            tests.struck();
            tests.cured();
            tests.turnedRound();
            tests.exchanged();
            tests.changed();
            tests.flipped();
            tests.proven();
            tests.askedOut();
            tests.formsByBest(0);
            tests.formsByBest(1);
            tests.shares();
            tests.onePage();
            tests.nextGiven();
            tests.wrongAnswers();
            tests.orders();
            tests.spoiledAndUnused();
        }
    }

    // ---- texts ----

    private String unit() {
        return (random.nextInt(3) == 0 ? "!" : "") + (char) ('a' + random.nextInt(facts));
    }

    private String condition() {
        StringBuilder all = new StringBuilder(unit());
        for (int k = random.nextInt(3); k > 0; k--) {
            all.append(random.nextBoolean() ? "&" : "|").append(unit());
        }
        if (random.nextInt(4) == 0) {
            all.append("|2#").append("abcd", 0, facts);
        }
        return all.toString();
    }

    private List<String> clauses() {
        List<String> all = new ArrayList<>();
        int outcomes = 1 + random.nextInt(3);
        for (int k = random.nextInt(4); k >= 0; k--) {
            all.add(random.nextInt(outcomes) + ":" + condition() + (random.nextInt(3) == 0 ? "u" + condition() : ""));
        }
        return all;
    }

    private static String text(List<String> clauses) {
        return String.join(";", clauses);
    }

    private CoalForm of(String... laws) {
        CoalForm x = new CoalForm(facts);
        for (String law : laws) {
            Check.due(name + law + " is a law", Check.law(x, law) >= 0, true);
        }
        return x;
    }

    /** On how many cases two laws say unlike things. */
    private int unlike(String one, String other) {
        return of(one, other).parts(0, 1, NONE);
    }

    private int[] minutesAndPeople(CoalForm x) {
        int[] minutes = new int[facts];
        for (int f = 0; f < facts; f++) {
            minutes[f] = 1 + random.nextInt(9);
            x.set(0, f, minutes[f]);
        }
        for (int s = random.nextInt(3); s >= 0; s--) {
            int sort = x.sort(1 + random.nextInt(9));
            for (int f = 0; f < facts; f++) {
                x.chance(sort, f, random.nextInt(11));
            }
        }
        return minutes;
    }

    private int[] said(CoalForm x, int law) {
        int[] said = new int[cases];
        for (int c = 0; c < cases; c++) {
            said[c] = x.says(law, c);
        }
        return said;
    }

    private void due(String what, long got, long want) {
        Check.due(name + what, got, want);
    }

    private static boolean has(int bits, int k) {
        return (bits >> k & 1) != 0;
    }

    // ---- promises 32, 33, 37 to 39, 41: the same of changed texts ----

    private void struck() {
        List<String> clauses = clauses();
        CoalForm x = of(text(clauses));
        int idle = 0;
        for (int k = 0; k < clauses.size() && clauses.size() > 1; k++) {
            List<String> others = new ArrayList<>(clauses);
            others.remove(k);
            int otherwise = unlike(text(clauses), text(others));
            due("39: burden of " + k + " of " + clauses, x.burden(0, k), otherwise);
            idle |= otherwise == 0 ? 1 << k : 0;
        }
        if (clauses.size() > 1) {
            due("39: idle of " + clauses, x.burden(0, NONE), idle);
        } else {
            due("39: without its one clause it says nothing", x.burden(0, 0), cases - x.gap(0, 1, NONE));
        }
    }

    private void cured() {
        List<String> clauses = clauses();
        int[][] rulings = new int[1 + random.nextInt(4)][];
        CoalForm x = of(text(clauses));
        for (int r = 0; r < rulings.length; r++) {
            rulings[r] = new int[] {random.nextInt(cases), random.nextInt(4) - 1};
            x.ruling(rulings[r][0], rulings[r][1]);
        }
        int all = (1 << clauses.size()) - 1;
        int cure = x.cure(0);
        for (int struck = 0; struck < all; struck++) {
            boolean agrees = agrees(clauses, struck, rulings);
            boolean fewer = Integer.bitCount(struck) < Integer.bitCount(cure);
            due("38: " + struck + " struck of " + clauses, agrees && (cure == NONE || fewer) ? 1 : 0, 0);
            due("38: " + cure + " struck of " + clauses, struck == cure && !agrees ? 1 : 0, 0);
        }
    }

    private boolean agrees(List<String> clauses, int struck, int[][] rulings) {
        List<String> left = new ArrayList<>();
        for (int k = 0; k < clauses.size(); k++) {
            if (!has(struck, k)) {
                left.add(clauses.get(k));
            }
        }
        CoalForm x = of(text(left));
        for (int[] ruling : rulings) {
            x.ruling(ruling[0], ruling[1]);
        }
        int against = 0;
        for (int r = 0; r < rulings.length; r++) {
            against |= x.says(0, rulings[r][0]) == rulings[r][1] ? 0 : 1 << r;
        }
        due("37: against " + left, x.against(0), against);
        return against == 0;
    }

    private void turnedRound() {
        List<String> clauses = clauses();
        CoalForm x = of(text(clauses));
        for (int i = 0; i + 1 < clauses.size(); i++) {
            List<String> turned = new ArrayList<>(clauses);
            turned.add(i, turned.remove(i + 1));
            due("33: swap of " + i + " of " + clauses, x.swap(0, i), unlike(text(clauses), text(turned)) == 0 ? 1 : 0);
        }
        due("33: no clause behind the last", x.swap(0, clauses.size() - 1), NONE);
    }

    private void exchanged() {
        String law = text(clauses());
        int one = random.nextInt(facts);
        int other = random.nextInt(facts);
        char a = (char) ('a' + one);
        char b = (char) ('a' + other);
        String exchanged = law.replace(a, '*').replace(b, a).replace('*', b);
        int due = one == other ? NONE : unlike(law, exchanged);
        due("41: office of " + a + " and " + b + " in " + law, of(law).office(0, one, other), due);
    }

    private void changed() {
        List<String> from = clauses();
        List<String> to = new ArrayList<>(from);
        to.set(random.nextInt(to.size()), clauses().get(0));
        if (random.nextBoolean()) {
            to.add(clauses().get(0));
        }
        int mend = 0;
        for (int k = 0; k < to.size(); k++) {
            boolean another = k >= from.size() || from.get(k).charAt(0) != to.get(k).charAt(0)
                    || unlike(from.get(k), to.get(k)) != 0;
            mend |= another ? 1 << k : 0;
        }
        due("32: from " + from + " to " + to, of(text(from), text(to)).mend(0, 1), mend);
        due("32: nothing is to be mended in itself", of(text(from)).mend(0, 0), 0);
    }

    // ---- promises 6 to 11: what is said, alone and on what is known ----

    private void flipped() {
        String law = text(clauses());
        CoalForm x = of(law);
        int ever = 0;
        int always = cases - 1;
        int open = 0;
        for (int c = 0; c < cases; c++) {
            open += x.says(0, c) == NONE ? 1 : 0;
            due("7: no clause holds on " + c + " of " + law, x.clauses(0, c) == 0 ? 1 : 0, x.says(0, c) == NONE ? 1 : 0);
            for (int f = 0; f < facts; f++) {
                boolean otherwise = x.says(0, c) != x.says(0, c ^ 1 << f);
                ever |= otherwise ? 1 << f : 0;
                always &= otherwise ? -1 : ~(1 << f);
            }
        }
        due("8: open of " + law, x.gap(0, 1, NONE), open);
        due("10: ever of " + law, x.matters(0, 0), ever);
        due("10: always of " + law, x.matters(0, 1), always);
    }

    private void proven() {
        String law = text(clauses());
        CoalForm x = of(law);
        int c = random.nextInt(cases);
        int proof = x.proof(0, c);
        due("11: the proof of " + c + " of " + law, x.sure(0, proof, c & proof), x.says(0, c));
        for (int set = 0; set < cases; set++) {
            int more = Integer.bitCount(set) - Integer.bitCount(proof);
            boolean lower = more == 0 && Integer.numberOfTrailingZeros(set ^ proof) < 32
                    && has(set, Integer.numberOfTrailingZeros(set ^ proof));
            boolean sure = x.sure(0, set, c & set) != CoalForm.HIDDEN;
            due("11: " + set + " goes ahead on " + c + " of " + law, (more < 0 || lower) && sure ? 1 : 0, 0);
            due("9: " + set + " and more than a proof", (set & proof) == proof && !sure ? 1 : 0, 0);
        }
    }

    // ---- promises 21 to 26, 42: asking out ----

    private void askedOut() {
        CoalForm x = of(text(clauses()), text(clauses()));
        int[] minutes = minutesAndPeople(x);
        int barred = random.nextInt(3) == 0 ? random.nextInt(facts) : NONE;
        x.set(2, barred, 1);
        int other = random.nextBoolean() ? NONE : 1;
        int known = random.nextInt(cases);
        int so = known & random.nextInt(cases);
        long mean = x.mean(0, other, known, so);
        int worst = x.worst(0, other, known, so);
        boolean sure = isSure(x, other, known, so);
        long leastMean = sure ? 0 : NONE;
        int leastWorst = sure ? 0 : NONE;
        int[] best = {NONE, NONE};
        for (int f = 0; f < facts && !sure; f++) {
            int next = known | 1 << f;
            if (next != known && f != barred && x.mean(0, other, next, so) != NONE
                    && x.mean(0, other, next, so | 1 << f) != NONE) {
                long byMean = x.share(known, so) * minutes[f]
                        + x.mean(0, other, next, so) + x.mean(0, other, next, so | 1 << f);
                int byWorst = minutes[f]
                        + Math.max(x.worst(0, other, next, so), x.worst(0, other, next, so | 1 << f));
                best[0] = leastMean == NONE || byMean < leastMean ? f : best[0];
                leastMean = leastMean == NONE ? byMean : Math.min(leastMean, byMean);
                best[1] = leastWorst == NONE || byWorst < leastWorst ? f : best[1];
                leastWorst = leastWorst == NONE ? byWorst : Math.min(leastWorst, byWorst);
            }
        }
        due("22: mean from " + known + ", " + so, mean, leastMean);
        due("23: worst from " + known + ", " + so, worst, leastWorst);
        due("24: best by mean", x.best(0, other, known, so, 0), best[0]);
        due("24: best by worst", x.best(0, other, known, so, 1), best[1]);
    }

    private static boolean isSure(CoalForm x, int other, int known, int so) {
        return x.sure(0, known, so) != CoalForm.HIDDEN
                && (other == NONE || x.sure(other, known, so) != CoalForm.HIDDEN);
    }

    /** The form that asks what best says is the law, and no dearer than mean or worst. */
    private void formsByBest(int what) {
        String law = text(clauses());
        String second = text(clauses());
        CoalForm x = of(law, second);
        minutesAndPeople(x);
        int other = random.nextBoolean() ? NONE : 1;
        List<String> nodes = new ArrayList<>();
        if (isSure(x, other, 0, 0)) {
            return;
        }
        grow(x, nodes, other, 0, 0, what);
        if (nodes.size() > 12) {
            return;
        }
        int form = Check.form(x, String.join(";", nodes));
        due("14: " + nodes + " is " + law, x.apart(form, 0, NONE), 0);
        due("17: it uses all", x.unused(form), 0);
        if (what == 0) {
            due("25: cost of " + nodes, x.cost(form), x.mean(0, other, 0, 0));
        } else {
            due("26: longest of " + nodes, x.longest(form), x.worst(0, other, 0, 0));
        }
    }

    private static String grow(CoalForm x, List<String> nodes, int other, int known, int so, int what) {
        if (isSure(x, other, known, so)) {
            int said = x.sure(0, known, so);
            return said == NONE ? "=-" : "=" + said;
        }
        int fact = x.best(0, other, known, so, what);
        int own = nodes.size();
        nodes.add("");
        String yes = grow(x, nodes, other, known | 1 << fact, so | 1 << fact, what);
        String no = grow(x, nodes, other, known | 1 << fact, so, what);
        nodes.set(own, (char) ('a' + fact) + ">" + yes + "," + no);
        return "" + own;
    }

    private void shares() {
        CoalForm x = of(text(clauses()));
        minutesAndPeople(x);
        int known = random.nextInt(cases);
        int so = known & random.nextInt(cases);
        for (int f = 0; f < facts; f++) {
            if (!has(known, f)) {
                long both = x.share(known | 1 << f, so) + x.share(known | 1 << f, so | 1 << f);
                due("21: " + f + " is so or not", both, x.share(known, so));
            }
        }
        long all = 0;
        for (int outcome = NONE; outcome <= 5; outcome++) {
            long sorts = 0;
            for (int sort = 0; sort < x.count(3); sort++) {
                sorts += x.likely(0, outcome, sort);
            }
            due("42: the sorts together", x.likely(0, outcome, NONE), sorts);
            all += sorts;
        }
        due("42: all outcomes together", all, x.share(0, 0));
    }

    // ---- promises 27, 28, 40: questions ----

    /** Questions are laws, too: on this object law k + 1 says 1 where question k is so. */
    private CoalForm withQuestions(int number) {
        String[] conditions = new String[number];
        for (int k = 0; k < number; k++) {
            conditions[k] = condition();
        }
        CoalForm x = of(text(clauses()));
        for (String condition : conditions) {
            Check.law(x, "1:" + condition);
            Check.question(x, condition);
        }
        return x;
    }

    private void onePage() {
        int number = 1 + random.nextInt(4);
        CoalForm x = withQuestions(number);
        int[] minutes = new int[number];
        for (int k = 0; k < number; k++) {
            minutes[k] = 1 + random.nextInt(3);
            x.set(1, k, minutes[k]);
            due("28: pairs that question " + k + " parts", x.tells(k, 0), pairsParted(said(x, k + 1), said(x, 0)));
        }
        int page = x.page(0);
        due("27: the page tells", page == NONE || tells(x, page) ? 1 : 0, 1);
        for (int set = 0; set < 1 << number; set++) {
            int more = page == NONE ? 0 : minutesOf(set, minutes) - minutesOf(page, minutes);
            int count = page == NONE ? 0 : Integer.bitCount(set) - Integer.bitCount(page);
            boolean lower = page != NONE && set != page && has(set, Integer.numberOfTrailingZeros(set ^ page));
            boolean ahead = page == NONE || more < 0 || more == 0 && (count < 0 || count == 0 && lower);
            due("27: " + set + " goes ahead of " + page, ahead && tells(x, set) ? 1 : 0, 0);
        }
    }

    private static int pairsParted(int[] answers, int[] said) {
        int pairs = 0;
        for (int c = 0; c < said.length; c++) {
            for (int d = 0; d < c; d++) {
                pairs += answers[c] != answers[d] && said[c] != said[d] ? 1 : 0;
            }
        }
        return pairs;
    }

    private static int minutesOf(int set, int[] minutes) {
        int sum = 0;
        for (int k = 0; k < minutes.length; k++) {
            sum += has(set, k) ? minutes[k] : 0;
        }
        return sum;
    }

    /** Whether each of the answers that some case gives leaves one thing to be said. */
    private static boolean tells(CoalForm x, int set) {
        for (int answers = 0; answers <= set; answers++) {
            if ((answers & ~set) == 0 && x.given(0, set, answers, 1) > 0
                    && x.given(0, set, answers, 0) == CoalForm.HIDDEN) {
                return false;
            }
        }
        return true;
    }

    private void nextGiven() {
        int number = 1 + random.nextInt(4);
        CoalForm x = withQuestions(number);
        int set = random.nextInt(1 << number);
        int answers = set & random.nextInt(1 << number);
        int left = x.given(0, set, answers, 1);
        int due = NONE;
        int fewest = cases + 1;
        for (int q = 0; q < number; q++) {
            if (!has(set, q)) {
                int so = x.given(0, set | 1 << q, answers | 1 << q, 1);
                int not = x.given(0, set | 1 << q, answers, 1);
                due("40: " + q + " is so or not", so + not, left);
                due = Math.max(so, not) < fewest ? q : due;
                fewest = Math.min(fewest, Math.max(so, not));
            }
        }
        boolean asks = left > 0 && x.given(0, set, answers, 0) == CoalForm.HIDDEN;
        due("40: ask behind " + set + ", " + answers, x.given(0, set, answers, 2), asks ? due : NONE);
    }

    // ---- promises 29, 30: wrong answers ----

    /** A form that asks no fact twice on a way: wrong answers lead as another case does. */
    private String asking() {
        List<String> nodes = new ArrayList<>();
        List<Integer> left = new ArrayList<>();
        for (int f = 0; f < facts; f++) {
            left.add(random.nextInt(left.size() + 1), f);
        }
        for (int n = 0; n < facts; n++) {
            nodes.add((char) ('a' + left.get(n)) + ">" + behind(n) + "," + behind(n));
        }
        return String.join(";", nodes);
    }

    private String behind(int own) {
        boolean on = own + 1 < facts && random.nextInt(3) != 0;
        return on ? "" + (own + 1 + random.nextInt(facts - own - 1)) : "=" + "-012".charAt(random.nextInt(4));
    }

    private void wrongAnswers() {
        CoalForm x = of(text(clauses()));
        int form = Check.form(x, asking());
        int c = random.nextInt(cases);
        due("29: no answer is wrong", x.off(form, 0, c), x.leads(form, c) == x.says(0, c) ? 0 : CERTAIN);
        int[] wrongs = new int[facts];
        for (int f = 0; f < facts; f++) {
            wrongs[f] = random.nextInt(11);
            x.set(3, f, wrongs[f]);
        }
        due("29: off on " + c, x.off(form, 0, c), offByCases(x, form, c, wrongs));
        int weak = x.weak(form, 0);
        long[] sums = new long[facts];
        for (int f = 0; f < facts; f++) {
            x.set(3, f, 0);
            for (int k = 0; k < cases; k++) {
                sums[f] += x.off(form, 0, k);
            }
            x.set(3, f, wrongs[f]);
        }
        for (int f = 0; f < facts; f++) {
            boolean ahead = f < weak ? sums[f] <= sums[weak] : sums[f] < sums[weak];
            due("30: " + f + " goes ahead of " + weak, ahead ? 1 : 0, 0);
        }
    }

    private long offByCases(CoalForm x, int form, int c, int[] wrongs) {
        long off = 0;
        for (int answered = 0; answered < cases; answered++) {
            long likely = CERTAIN;
            for (int f = 0; f < facts; f++) {
                likely = likely / 10 * (has(answered ^ c, f) ? wrongs[f] : 10 - wrongs[f]);
            }
            off += x.leads(form, answered) == x.says(0, c) ? 0 : likely;
        }
        return off;
    }

    // ---- promises 34, 35, 43: orders ----

    private void orders() {
        String law = text(clauses());
        CoalForm x = of(law);
        int all = 1;
        for (int f = 0; f < facts; f++) {
            all *= facts;
        }
        int least = NONE;
        int first = NONE;
        int number = 0;
        for (int order = 0; order < all; order++) {
            int size = x.chart(0, order, 0);
            number += size == NONE ? 0 : 1;
            first = size != NONE && (least == NONE || size < least) ? order : first;
            least = size != NONE && (least == NONE || size < least) ? size : least;
        }
        due("34: as many orders as there are", number, facts == 4 ? 24 : facts == 3 ? 6 : facts);
        due("35: the fewest boxes of " + law, x.least(0, 0), least);
        due("35: the lowest order of " + law, x.least(0, 1), first);
        straight(law, first);
    }

    private void straight(String law, int order) {
        CoalForm x = of(law);
        int[] each = minutesAndPeople(x);
        int[] said = said(x, 0);
        int most = 0;
        for (int c = 0; c < cases; c++) {
            int known = 0;
            int minutes = 0;
            for (int fact : factsOf(order)) {
                if (mattersStill(said, known, c & known, fact)) {
                    known |= 1 << fact;
                    minutes += each[fact];
                }
            }
            due("43: asked on " + c + " of " + law, x.straight(0, order, c), Integer.bitCount(known));
            due("43: all is told", x.sure(0, known, c & known), x.says(0, c));
            most = Math.max(most, minutes);
        }
        due("43: minutes of " + law, x.straight(0, order, NONE), most);
        due("43: no fewer than the worst", x.worst(0, NONE, 0, 0) <= most ? 1 : 0, 1);
    }

    private int[] factsOf(int order) {
        int[] all = new int[facts];
        for (int k = facts - 1, left = order; k >= 0; k--, left /= facts) {
            all[k] = left % facts;
        }
        return all;
    }

    private static boolean mattersStill(int[] said, int known, int so, int fact) {
        for (int c = 0; c < said.length; c++) {
            if ((c & known) == so && said[c] != said[c ^ 1 << fact]) {
                return true;
            }
        }
        return false;
    }

    // ---- promises 13 to 17: forms ----

    private void spoiledAndUnused() {
        CoalForm x = of(text(clauses()));
        int form = Check.form(x, asking());
        int apart = x.apart(form, 0, NONE);
        due("16: spoiled is no fewer than one", x.spoiled(form, 0) != 0 ? 1 : 0, apart != 0 ? 1 : 0);
        for (int i = 0; i < apart; i++) {
            int c = x.apart(form, 0, i);
            due("14: on " + c, x.leads(form, c) != x.says(0, c) ? 1 : 0, 1);
        }
        int other = Check.form(x, asking());
        int first = x.unlike(form, other);
        for (int c = 0; c < cases; c++) {
            boolean parts = x.leads(form, c) != x.leads(other, c);
            due("15: " + c + " and " + first, parts && (first == NONE || c < first) || c == first && !parts ? 1 : 0, 0);
        }
    }
}
