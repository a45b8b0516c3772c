import java.util.NoSuchElementException;
import java.util.Random;

/** Runs of calls by fixed seeds, each answer held against Plain's. */
final class FuzzTests {
    private static final int[] ODD = {-1, -2, -3, Integer.MIN_VALUE, Integer.MAX_VALUE, 1 << 30, 1 << 16, -512};

    private final Random random;
    private final CoalForm x;
    private final Plain plain;
    private final String run;
    private final boolean slow;

    private FuzzTests(long seed, int facts) {
        random = new Random(seed);
        x = new CoalForm(facts);
        plain = new Plain(facts);
        run = "run " + seed + " of " + facts + " facts: ";
        slow = plain.facts > 5;
    }

    static void all() {
        for (int seed = 0; seed < 400; seed++) {
            new FuzzTests(seed, seed % 6 + (seed % 50 == 0 ? -1 : 0)).run(500);
        }
        for (int seed = 1000; seed < 1060; seed++) {
            new FuzzTests(seed, 6 + seed % 4 + seed % 7 / 6).run(200);
        }
        for (int seed = 2000; seed < 2600; seed++) {
            new FuzzTests(seed, seed % 9 + 1).texts(300);
        }
    }

    private void run(int calls) {
        for (int k = 0; k < 4; k++) {
            tryText(random.nextInt(3), false);
        }
        for (int k = 0; k < calls; k++) {
            int kind = random.nextInt(20);
            if (kind < 2) {
                tryText(random.nextInt(3), random.nextInt(4) == 0);
            } else if (kind < 6) {
                change();
            } else {
                ask(random.nextInt(36));
            }
        }
    }

    private void texts(int calls) {
        for (int k = 0; k < calls; k++) {
            tryText(random.nextInt(3), random.nextInt(3) != 0);
        }
    }

    // ---- texts ----

    private void tryText(int sort, boolean spoilt) {
        String text = sort == 0 ? lawText() : sort == 1 ? condition(0) : formText();
        for (int k = random.nextInt(4); spoilt && k >= 0; k--) {
            text = spoil(text);
        }
        if (text.length() > 160) {
            text = text.substring(0, 160);
        }
        if (random.nextInt(5) != 0) {
            due("end(0)", x.end(0), plain.end(0));
        }
        for (int k = 0; k < text.length(); k += 20) {
            feed(text, k);
        }
        for (int as = -1; as < 4; as++) {
            due("fault(" + as + ") of " + plain.tape, x.fault(as), plain.fault(as));
        }
        if (random.nextInt(4) == 0) {
            int n = random.nextInt(plain.tape.length() + 3) - 1;
            due("end(" + n + ")", x.end(n), plain.end(n));
        }
        int as = random.nextInt(30) == 0 ? odd(3) : sort;
        due("text(" + as + ")", x.text(as), plain.text(as));
        due("count(5)", x.count(5), plain.count(5));
    }

    private void feed(String text, int k) {
        int a = Check.word(text, k);
        int b = Check.word(text, k + 4);
        int c = Check.word(text, k + 8);
        int d = Check.word(text, k + 12);
        int e = Check.word(text, k + 16);
        due("feed", x.feed(a, b, c, d, e), plain.feed(a, b, c, d, e));
    }

    private String blank() {
        return random.nextInt(12) == 0 ? " " : "";
    }

    private char letter() {
        return (char) ('a' + random.nextInt(plain.facts));
    }

    private String lawText() {
        StringBuilder all = new StringBuilder();
        int clauses = random.nextInt(8) == 0 ? 13 : 1 + random.nextInt(5);
        int outcomes = 1 + random.nextInt(6);
        for (int k = 0; k < clauses; k++) {
            all.append(k == 0 ? "" : ";").append(blank()).append(random.nextInt(outcomes)).append(blank()).append(":");
            all.append(clauses > 9 ? "" + letter() : condition(0));
            if (random.nextInt(3) == 0 && clauses < 10) {
                all.append("u").append(condition(0));
            }
        }
        return all.toString();
    }

    private String condition(int depth) {
        StringBuilder all = new StringBuilder();
        int units = 1 + random.nextInt(depth == 0 ? 3 : 2);
        for (int k = 0; k < units; k++) {
            all.append(k == 0 ? "" : random.nextBoolean() ? "&" : "|").append(unit(depth));
        }
        return all.toString();
    }

    private String unit(int depth) {
        int kind = random.nextInt(10);
        if (kind < 2 && depth < 7) {
            return blank() + "!" + unit(depth + 1);
        }
        if (kind < 4 && depth < 7) {
            return blank() + "(" + condition(depth + 1) + blank() + ")";
        }
        if (kind < 6) {
            StringBuilder all = new StringBuilder(blank()).append(1 + random.nextInt(3)).append("#");
            int from = random.nextInt(plain.facts);
            for (int f = from; f < plain.facts && f < from + 4; f++) {
                all.append(blank()).append((char) ('a' + f));
            }
            return all.toString();
        }
        return blank() + letter() + blank();
    }

    private String formText() {
        StringBuilder all = new StringBuilder();
        int nodes = random.nextInt(8) == 0 ? 12 + random.nextInt(2) : 1 + random.nextInt(8);
        for (int n = 0; n < nodes; n++) {
            all.append(n == 0 ? "" : ";").append(blank()).append(letter()).append(blank()).append(">");
            all.append(target(n, nodes)).append(blank()).append(",").append(target(n, nodes));
        }
        return all.toString();
    }

    private String target(int own, int nodes) {
        if (random.nextInt(100) == 0) {
            return "" + random.nextInt(130);
        }
        if (own + 1 < nodes && random.nextInt(3) != 0) {
            int far = random.nextInt(3) == 0 ? nodes - own - 1 : Math.min(2, nodes - own - 1);
            int number = own + 1 + random.nextInt(far);
            return blank() + (number < 10 && random.nextInt(9) == 0 ? "0" : "") + number;
        }
        return blank() + "=" + blank() + "-012345".charAt(random.nextInt(7));
    }

    private String spoil(String text) {
        String signs = "abcdefghij0123456789:;u&|!()# >,=-6z" + (char) 233;
        int at = random.nextInt(text.length() + 1);
        char sign = signs.charAt(random.nextInt(signs.length()));
        int kind = random.nextInt(4);
        if (kind == 0 || at == text.length()) {
            return text.substring(0, at) + sign + text.substring(at);
        }
        if (kind == 1) {
            return text.substring(0, at) + text.substring(at + 1);
        }
        return kind == 2 ? text.substring(0, at) + sign + text.substring(at + 1) : text.substring(0, at);
    }

    // ---- arguments ----

    /** Mostly 0 .. below, now and then beside it or far off. */
    private int odd(int below) {
        int kind = random.nextInt(24);
        if (kind == 0) {
            return ODD[random.nextInt(ODD.length)];
        }
        if (kind == 1) {
            return random.nextInt(below + 3) - 1;
        }
        return random.nextInt(Math.max(1, below));
    }

    private int law() {
        return odd(plain.laws.size());
    }

    private int form() {
        return odd(plain.forms.size());
    }

    private int cases() {
        return odd(1 << plain.facts);
    }

    private int place() {
        return random.nextInt(3) == 0 ? -1 : odd(6);
    }

    private int other() {
        return random.nextBoolean() ? -1 : law();
    }

    private int order() {
        if (random.nextInt(5) == 0) {
            return odd((int) Math.min(400000000L, (long) Math.pow(plain.facts, plain.facts)));
        }
        int[] order = new int[plain.facts];
        for (int k = 0; k < order.length; k++) {
            int at = random.nextInt(k + 1);
            order[k] = order[at];
            order[at] = k;
        }
        int number = 0;
        for (int fact : order) {
            number = number * plain.facts + fact;
        }
        return number;
    }

    // ---- calls ----

    private void change() {
        int a = random.nextInt(4);
        switch (random.nextInt(10)) {
            case 0, 1, 2 -> {
                int what = odd(4);
                int n = odd(what == 1 ? plain.questions.size() : plain.facts);
                int v = what == 2 ? random.nextInt(4) / 3 : random.nextInt(2) == 0 ? odd(11) : odd(101);
                due("set(" + what + ", " + n + ", " + v + ")", x.set(what, n, v), plain.set(what, n, v));
            }
            case 3 -> {
                int weight = odd(10);
                if (a == 0) {
                    due("sort(" + weight + ")", x.sort(weight), plain.sort(weight));
                }
            }
            case 4, 5, 6, 7 -> {
                int sort = odd(plain.sorts.size());
                int fact = odd(plain.facts);
                int v = odd(11);
                due("chance", x.chance(sort, fact, v), plain.chance(sort, fact, v));
            }
            default -> {
                int c = cases();
                int outcome = odd(7) - 1;
                if (a < 2) {
                    due("ruling", x.ruling(c, outcome), plain.ruling(c, outcome));
                }
            }
        }
    }

    private void ask(int kind) {
        int known = random.nextInt(3) == 0 && !slow ? 0 : cases();
        int so = random.nextInt(9) == 0 ? cases() : known & random.nextInt(512);
        if (slow && random.nextInt(40) != 0) {
            known |= 15;
            known &= (1 << plain.facts) - 1;
            so &= known;
        }
        String at = " at " + known + ", " + so;
        int law = law();
        int form = form();
        int i = place();
        switch (kind) {
            case 0 -> throwing(true, law, cases());
            case 1 -> throwing(false, form, cases());
            case 2 -> {
                int c = cases();
                due("clauses", x.clauses(law, c), plain.clauses(law, c));
            }
            case 3 -> {
                int what = odd(2);
                due("gap", x.gap(law, what, i), plain.gap(law, what, i));
            }
            case 4 -> due("sure" + at, x.sure(law, known, so), plain.sure(law, known, so));
            case 5 -> {
                int what = odd(2);
                due("matters", x.matters(law, what), plain.matters(law, what));
            }
            case 6 -> {
                int c = cases();
                due("proof", x.proof(law, c), plain.proof(law, c));
            }
            case 7 -> {
                int other = law();
                due("parts", x.parts(law, other, i), plain.parts(law, other, i));
            }
            case 8 -> due("apart", x.apart(form, law, i), plain.apart(form, law, i));
            case 9 -> {
                int other = form();
                due("unlike", x.unlike(form, other), plain.unlike(form, other));
            }
            case 10 -> due("spoiled", x.spoiled(form, law), plain.spoiled(form, law));
            case 11 -> due("unused", x.unused(form), plain.unused(form));
            case 12 -> due("share" + at, x.share(known, so), plain.share(known, so));
            case 13, 14, 15 -> askOut(law, other(), known, so, kind - 13);
            case 16 -> due("cost", x.cost(form), plain.cost(form));
            case 17 -> due("longest", x.longest(form), plain.longest(form));
            default -> askMore(kind, law, form);
        }
    }

    private void askOut(int law, int other, int known, int so, int kind) {
        String with = "(" + law + ", " + other + ", " + known + ", " + so + ")";
        if (kind == 0) {
            due("mean" + with, x.mean(law, other, known, so), plain.mean(law, other, known, so));
        } else if (kind == 1) {
            due("worst" + with, x.worst(law, other, known, so), plain.worst(law, other, known, so));
        } else {
            int what = odd(2);
            due("best " + what + with, x.best(law, other, known, so, what), plain.best(law, other, known, so, what));
        }
    }

    private void askMore(int kind, int law, int form) {
        int c = cases();
        switch (kind) {
            case 18 -> due("page(" + law + ")", x.page(law), plain.page(law));
            case 19 -> {
                int question = odd(plain.questions.size());
                due("tells", x.tells(question, law), plain.tells(question, law));
            }
            case 20 -> due("off", x.off(form, law, c), plain.off(form, law, c));
            case 21 -> due("weak", x.weak(form, law), plain.weak(form, law));
            case 22 -> {
                long seed = random.nextLong();
                int what = odd(2);
                due("person " + seed, x.person(seed, what), plain.person(seed, what));
            }
            case 23 -> {
                int other = law();
                due("mend", x.mend(law, other), plain.mend(law, other));
            }
            case 24 -> {
                int i = odd(6);
                due("swap " + i, x.swap(law, i), plain.swap(law, i));
            }
            case 25 -> {
                int order = order();
                int what = odd(2);
                due("chart " + order, x.chart(law, order, what), plain.chart(law, order, what));
            }
            case 26 -> {
                int what = odd(2);
                if (!slow || what < 0 || what > 1) {
                    due("least", x.least(law, what), plain.least(law, what));
                }
            }
            case 27 -> due("against", x.against(law), plain.against(law));
            case 28 -> due("cure", x.cure(law), plain.cure(law));
            case 29 -> {
                int clause = odd(6) - 1;
                due("burden " + clause, x.burden(law, clause), plain.burden(law, clause));
            }
            case 30, 31 -> askGiven(law);
            case 32 -> {
                int one = odd(plain.facts);
                int other = odd(plain.facts);
                due("office", x.office(law, one, other), plain.office(law, one, other));
            }
            case 33 -> {
                int outcome = odd(7) - 1;
                int sort = odd(plain.sorts.size() + 1) - 1;
                due("likely", x.likely(law, outcome, sort), plain.likely(law, outcome, sort));
            }
            case 34 -> {
                int order = order();
                int on = random.nextBoolean() ? -1 : c;
                due("straight " + order + ", " + on, x.straight(law, order, on), plain.straight(law, order, on));
            }
            default -> {
                int what = odd(8);
                due("count " + what, x.count(what), plain.count(what));
            }
        }
    }

    private void askGiven(int law) {
        int set = odd(1 << plain.questions.size()) & (random.nextInt(9) == 0 ? -1 : random.nextInt(1024));
        int answers = random.nextInt(9) == 0 ? odd(1024) : set & random.nextInt(1024);
        int what = odd(3);
        due("given(" + law + ", " + set + ", " + answers + ", " + what + ")",
                x.given(law, set, answers, what), plain.given(law, set, answers, what));
    }

    private void throwing(boolean ofLaw, int n, int c) {
        due((ofLaw ? "says " : "leads ") + n + ", " + c, answer(ofLaw, true, n, c), answer(ofLaw, false, n, c));
    }

    /** An answer, or -9 for the exception that is due there; any other one goes on to the top. */
    private int answer(boolean ofLaw, boolean built, int n, int c) {
        try {
            if (built) {
                return ofLaw ? x.says(n, c) : x.leads(n, c);
            }
            return ofLaw ? plain.says(n, c) : plain.leads(n, c);
        } catch (NoSuchElementException none) {
            return -9;
        }
    }

    private void due(String call, long got, long want) {
        Check.due(run + call, got, want);
    }

    private void due(String call, boolean got, boolean want) {
        Check.due(run + call, got, want);
    }
}
