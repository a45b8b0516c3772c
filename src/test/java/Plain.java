import java.math.BigInteger;
import java.util.ArrayList;
import java.util.HashMap;
import java.util.HashSet;
import java.util.List;
import java.util.Map;
import java.util.NoSuchElementException;
import java.util.Set;
import java.util.function.IntPredicate;

/** The document once more, slowly and with other means: what FuzzTests holds CoalForm against. */
final class Plain {
    static final int NONE = -1;
    static final int HIDDEN = -2;

    record Clause(int outcome, IntPredicate holds) {
    }

    record Node(int fact, String yes, String no) {
    }

    /** A part of a text that could be read, and where it ends. */
    record Read(int end, IntPredicate so) {
    }

    final int facts;
    String tape = "";
    final List<List<Clause>> laws = new ArrayList<>();
    final List<IntPredicate> questions = new ArrayList<>();
    final List<List<Node>> forms = new ArrayList<>();
    final List<Integer> questionMinutes = new ArrayList<>();
    final int[] minutes = new int[9];
    final int[] wrongs = new int[9];
    final boolean[] barred = new boolean[9];
    final List<int[]> sorts = new ArrayList<>();
    final List<int[]> rulings = new ArrayList<>();

    Plain(int facts) {
        this.facts = facts < 1 ? 1 : facts > 9 ? 9 : facts;
        for (int f = 0; f < 9; f++) {
            minutes[f] = 1;
        }
    }

    // ---- reading: each sign that does not fit is noted, the furthest of them is the fault ----

    private int furthest;
    private List<Clause> readLaw;
    private IntPredicate readQuestion;
    private List<Node> readForm;

    private int blanks(int from) {
        int at = from;
        while (at < tape.length() && tape.charAt(at) == 32) {
            at++;
        }
        return at;
    }

    private int fails(int at) {
        furthest = Math.max(furthest, at);
        return NONE;
    }

    private int sign(int from, String any) {
        int at = blanks(from);
        return at < tape.length() && any.indexOf(tape.charAt(at)) >= 0 ? at + 1 : fails(at);
    }

    private String letters() {
        return "abcdefghi".substring(0, facts);
    }

    private Read condition(int from, int open) {
        Read all = part(from, open);
        while (all != null) {
            int next = sign(all.end(), "|");
            if (next == NONE) {
                return all;
            }
            Read more = part(next, open);
            IntPredicate before = all.so();
            all = more == null ? null : new Read(more.end(), before.or(more.so()));
        }
        return null;
    }

    private Read part(int from, int open) {
        Read all = unit(from, open);
        while (all != null) {
            int next = sign(all.end(), "&");
            if (next == NONE) {
                return all;
            }
            Read more = unit(next, open);
            IntPredicate before = all.so();
            all = more == null ? null : new Read(more.end(), before.and(more.so()));
        }
        return null;
    }

    private Read unit(int from, int open) {
        int at = sign(from, letters());
        if (at != NONE) {
            int fact = tape.charAt(at - 1) - 'a';
            return new Read(at, c -> (c >> fact) % 2 == 1);
        }
        at = sign(from, "123456789");
        if (at != NONE) {
            return several(at);
        }
        at = open < 6 ? sign(from, "!") : NONE;
        if (at != NONE) {
            Read inner = unit(at, open + 1);
            return inner == null ? null : new Read(inner.end(), inner.so().negate());
        }
        at = open < 6 ? sign(from, "(") : NONE;
        Read inner = at == NONE ? null : condition(at, open + 1);
        int close = inner == null ? NONE : sign(inner.end(), ")");
        return close == NONE ? null : new Read(close, inner.so());
    }

    private Read several(int behindDigit) {
        int least = tape.charAt(behindDigit - 1) - '0';
        if (behindDigit >= tape.length() || tape.charAt(behindDigit) != '#') {
            fails(behindDigit);
            return null;
        }
        List<Integer> several = new ArrayList<>();
        String left = letters();
        int end = behindDigit + 1;
        for (int at = sign(end, left); at != NONE; at = sign(end, left)) {
            char letter = tape.charAt(at - 1);
            several.add(letter - 'a');
            left = left.replace("" + letter, "");
            end = at;
        }
        if (several.isEmpty()) {
            return null;
        }
        // A second one of the same letter fits nowhere behind, so that it is the fault by itself.
        return new Read(end, c -> several.stream().filter(f -> (c >> f) % 2 == 1).count() >= least);
    }

    private boolean ends(int from) {
        int at = blanks(from);
        if (at < tape.length()) {
            fails(at);
        }
        return at == tape.length();
    }

    private boolean asLaw() {
        readLaw = new ArrayList<>();
        int at = 0;
        while (true) {
            at = sign(at, "012345");
            if (at == NONE) {
                return false;
            }
            int outcome = tape.charAt(at - 1) - '0';
            at = sign(at, ":");
            Read when = at == NONE ? null : condition(at, 0);
            if (when == null) {
                return false;
            }
            int u = sign(when.end(), "u");
            Read unless = u == NONE ? null : condition(u, 0);
            if (u != NONE && unless == null) {
                return false;
            }
            readLaw.add(new Clause(outcome, c -> when.so().test(c) && (unless == null || !unless.so().test(c))));
            int end = unless == null ? when.end() : unless.end();
            if (ends(end)) {
                return true;
            }
            at = readLaw.size() == 12 ? NONE : sign(end, ";");
            if (at == NONE) {
                return false;
            }
        }
    }

    private boolean asQuestion() {
        Read whole = condition(0, 0);
        readQuestion = whole == null ? null : whole.so();
        return whole != null && ends(whole.end());
    }

    private boolean asForm() {
        readForm = new ArrayList<>();
        int at = 0;
        while (true) {
            at = sign(at, letters());
            if (at == NONE) {
                return false;
            }
            int fact = tape.charAt(at - 1) - 'a';
            at = sign(at, ">");
            String yes = at == NONE ? null : target(at);
            at = yes == null ? NONE : sign(targetEnd, ",");
            String no = at == NONE ? null : target(at);
            if (no == null) {
                return false;
            }
            readForm.add(new Node(fact, yes, no));
            if (ends(targetEnd)) {
                return allThere();
            }
            at = readForm.size() == 12 ? NONE : sign(targetEnd, ";");
            if (at == NONE) {
                return false;
            }
        }
    }

    private boolean allThere() {
        for (Node node : readForm) {
            for (String target : new String[] {node.yes(), node.no()}) {
                if (!target.startsWith("=") && Integer.parseInt(target) >= readForm.size()) {
                    fails(tape.length());
                    return false;
                }
            }
        }
        return true;
    }

    private int targetEnd;

    private String target(int from) {
        int at = blanks(from);
        int end = at;
        while (end < tape.length() && tape.charAt(end) >= '0' && tape.charAt(end) <= '9') {
            end++;
        }
        if (end == at) {
            at = sign(from, "=");
            at = at == NONE ? NONE : sign(at, "-012345");
            targetEnd = at;
            return at == NONE ? null : "=" + tape.charAt(at - 1);
        }
        if (end - at > 2) {
            fails(at + 2);
            return null;
        }
        int number = Integer.parseInt(tape.substring(at, end));
        if (number <= readForm.size() || number > 11) {
            fails(end - 1);
            return null;
        }
        targetEnd = end;
        return "" + number;
    }

    int fault(int sort) {
        if (sort < 0 || sort > 2) {
            return -2;
        }
        furthest = 0;
        boolean whole = sort == 0 ? asLaw() : sort == 1 ? asQuestion() : asForm();
        return whole ? NONE : furthest;
    }

    int text(int sort) {
        int[] has = {laws.size(), questions.size(), forms.size()};
        int[] most = {6, 10, 6};
        if (fault(sort) != NONE || has[sort] == most[sort]) {
            return NONE;
        }
        if (sort == 0) {
            laws.add(readLaw);
        } else if (sort == 1) {
            questions.add(readQuestion);
            questionMinutes.add(1);
        } else {
            forms.add(readForm);
        }
        tape = "";
        return has[sort];
    }

    int feed(int a, int b, int c, int d, int e) {
        StringBuilder more = new StringBuilder();
        for (int word : new int[] {a, b, c, d, e}) {
            for (int shift = 3; shift >= 0; shift--) {
                int sign = word >>> 8 * shift & 0xff;
                if (sign != 0) {
                    more.append((char) sign);
                }
            }
        }
        if (tape.length() + more.length() > 160) {
            return NONE;
        }
        tape = tape + more;
        return tape.length();
    }

    boolean end(int n) {
        if (n < 0 || n > tape.length()) {
            return false;
        }
        tape = tape.substring(0, n);
        return true;
    }

    // ---- small words of the document ----

    private int cases() {
        return 1 << facts;
    }

    private boolean isLaw(int law) {
        return law >= 0 && law < laws.size();
    }

    private boolean isForm(int form) {
        return form >= 0 && form < forms.size();
    }

    private boolean isCase(int c) {
        return c >= 0 && c < cases();
    }

    private boolean isKnown(int known, int so) {
        return isCase(known) && isCase(so) && (known | so) == known;
    }

    private static boolean has(int bits, int k) {
        return k >= 0 && k < 32 && (bits >>> k) % 2 != 0;
    }

    private int saysWith(List<Clause> clauses, int c, int struck) {
        for (int k = 0; k < clauses.size(); k++) {
            if (!has(struck, k) && clauses.get(k).holds().test(c)) {
                return clauses.get(k).outcome();
            }
        }
        return NONE;
    }

    private int said(int law, int c) {
        return saysWith(laws.get(law), c, 0);
    }

    private int ith(List<Integer> hits, int i) {
        return i == NONE ? hits.size() : i < 0 || i >= hits.size() ? NONE : hits.get(i);
    }

    /** Whether a set is to be taken ahead of another: fewer, or with the lower one where the two first differ. */
    private static boolean ahead(int set, int other) {
        List<Integer> a = members(set);
        List<Integer> b = members(other);
        if (a.size() != b.size()) {
            return a.size() < b.size();
        }
        for (int k = 0; k < a.size(); k++) {
            if (!a.get(k).equals(b.get(k))) {
                return a.get(k) < b.get(k);
            }
        }
        return false;
    }

    private static List<Integer> members(int set) {
        List<Integer> all = new ArrayList<>();
        for (int k = 0; k < 31; k++) {
            if (has(set, k)) {
                all.add(k);
            }
        }
        return all;
    }

    // ---- laws ----

    int says(int law, int c) {
        if (!isLaw(law) || !isCase(c)) {
            throw new NoSuchElementException();
        }
        return said(law, c);
    }

    int clauses(int law, int c) {
        if (!isLaw(law) || !isCase(c)) {
            return NONE;
        }
        int bits = 0;
        for (int k = 0; k < laws.get(law).size(); k++) {
            bits += laws.get(law).get(k).holds().test(c) ? 1 << k : 0;
        }
        return bits;
    }

    int gap(int law, int what, int i) {
        if (!isLaw(law) || what < 0 || what > 1) {
            return NONE;
        }
        List<Integer> hits = new ArrayList<>();
        for (int c = 0; c < cases(); c++) {
            Set<Integer> outcomes = new HashSet<>();
            for (Clause clause : laws.get(law)) {
                if (clause.holds().test(c)) {
                    outcomes.add(clause.outcome());
                }
            }
            if (what == 0 ? outcomes.size() > 1 : outcomes.isEmpty()) {
                hits.add(c);
            }
        }
        return ith(hits, i);
    }

    int sure(int law, int known, int so) {
        if (!isLaw(law) || !isKnown(known, so)) {
            return HIDDEN;
        }
        Set<Integer> all = new HashSet<>();
        for (int c = 0; c < cases(); c++) {
            if ((c & known) == so) {
                all.add(said(law, c));
            }
        }
        return all.size() == 1 ? all.iterator().next() : HIDDEN;
    }

    int matters(int law, int what) {
        if (!isLaw(law) || what < 0 || what > 1) {
            return NONE;
        }
        int bits = 0;
        for (int f = 0; f < facts; f++) {
            int times = 0;
            for (int c = 0; c < cases(); c++) {
                int turned = has(c, f) ? c - (1 << f) : c + (1 << f);
                times += said(law, c) != said(law, turned) ? 1 : 0;
            }
            bits += (what == 0 ? times > 0 : times == cases()) ? 1 << f : 0;
        }
        return bits;
    }

    int proof(int law, int c) {
        if (!isLaw(law) || !isCase(c)) {
            return NONE;
        }
        int best = cases() - 1;
        for (int set = 0; set < cases(); set++) {
            if (ahead(set, best) && sure(law, set, c & set) != HIDDEN) {
                best = set;
            }
        }
        return best;
    }

    int parts(int one, int other, int i) {
        if (!isLaw(one) || !isLaw(other)) {
            return NONE;
        }
        List<Integer> hits = new ArrayList<>();
        for (int c = 0; c < cases(); c++) {
            if (said(one, c) != said(other, c)) {
                hits.add(c);
            }
        }
        return ith(hits, i);
    }

    // ---- forms ----

    private List<Integer> way(int form, int c) {
        List<Integer> nodes = new ArrayList<>();
        int at = 0;
        while (true) {
            nodes.add(at);
            Node node = forms.get(form).get(at);
            String target = has(c, node.fact()) ? node.yes() : node.no();
            if (target.startsWith("=")) {
                return nodes;
            }
            at = Integer.parseInt(target);
        }
    }

    private static int outcome(String target) {
        return target.equals("=-") ? NONE : target.charAt(1) - '0';
    }

    private int led(int form, int c) {
        List<Integer> nodes = way(form, c);
        Node last = forms.get(form).get(nodes.get(nodes.size() - 1));
        return outcome(has(c, last.fact()) ? last.yes() : last.no());
    }

    int leads(int form, int c) {
        if (!isForm(form) || !isCase(c)) {
            throw new NoSuchElementException();
        }
        return led(form, c);
    }

    int apart(int form, int law, int i) {
        if (!isForm(form) || !isLaw(law)) {
            return NONE;
        }
        List<Integer> hits = new ArrayList<>();
        for (int c = 0; c < cases(); c++) {
            if (led(form, c) != said(law, c)) {
                hits.add(c);
            }
        }
        return ith(hits, i);
    }

    int unlike(int one, int other) {
        if (!isForm(one) || !isForm(other)) {
            return NONE;
        }
        for (int c = 0; c < cases(); c++) {
            if (led(one, c) != led(other, c)) {
                return c;
            }
        }
        return NONE;
    }

    int spoiled(int form, int law) {
        if (!isForm(form) || !isLaw(law)) {
            return NONE;
        }
        int bits = 0;
        for (int n = 0; n < forms.get(form).size(); n++) {
            Node node = forms.get(form).get(n);
            for (int c = 0; c < cases(); c++) {
                String target = has(c, node.fact()) ? node.yes() : node.no();
                if (way(form, c).contains(n) && target.startsWith("=") && outcome(target) != said(law, c)) {
                    bits |= 1 << n;
                }
            }
        }
        return bits;
    }

    int unused(int form) {
        if (!isForm(form)) {
            return NONE;
        }
        int bits = 0;
        for (int n = 0; n < forms.get(form).size(); n++) {
            boolean used = false;
            for (int c = 0; c < cases(); c++) {
                used |= way(form, c).contains(n);
            }
            bits |= used ? 0 : 1 << n;
        }
        return bits;
    }

    // ---- settings, sorts, shares ----

    boolean set(int what, int n, int v) {
        int[] least = {1, 1, 0, 0};
        int[] most = {99, 99, 1, 10};
        if (what < 0 || what > 3 || n < 0 || n >= (what == 1 ? questions.size() : facts)
                || v < least[what] || v > most[what]) {
            return false;
        }
        if (what == 0) {
            minutes[n] = v;
        } else if (what == 1) {
            questionMinutes.set(n, v);
        } else if (what == 2) {
            barred[n] = v == 1;
        } else {
            wrongs[n] = v;
        }
        return true;
    }

    int sort(int weight) {
        if (weight < 1 || weight > 9 || sorts.size() == 4) {
            return NONE;
        }
        sorts.add(new int[] {5, 5, 5, 5, 5, 5, 5, 5, 5, weight});
        return sorts.size() - 1;
    }

    boolean chance(int sort, int fact, int v) {
        if (sort < 0 || sort >= sorts.size() || fact < 0 || fact >= facts || v < 0 || v > 10) {
            return false;
        }
        sorts.get(sort)[fact] = v;
        return true;
    }

    private BigInteger shareOf(int sort, int known, int so) {
        BigInteger all = BigInteger.valueOf(sorts.get(sort)[9]);
        for (int f = 0; f < facts; f++) {
            int chance = sorts.get(sort)[f];
            all = all.multiply(BigInteger.valueOf(has(known, f) ? has(so, f) ? chance : 10 - chance : 10));
        }
        return all;
    }

    long share(int known, int so) {
        if (!isKnown(known, so)) {
            return NONE;
        }
        BigInteger all = BigInteger.ZERO;
        for (int s = 0; s < sorts.size(); s++) {
            all = all.add(shareOf(s, known, so));
        }
        return all.longValueExact();
    }

    // ---- asking out ----

    private Map<Integer, Long> best = new HashMap<>();

    private boolean told(int law, int other, int known, int so) {
        return sure(law, known, so) != HIDDEN && (other == NONE || sure(other, known, so) != HIDDEN);
    }

    private long asked(int law, int other, int known, int so, boolean mean) {
        if (told(law, other, known, so)) {
            return 0;
        }
        int key = known << 9 | so;
        Long kept = best.get(key);
        if (kept != null) {
            return kept;
        }
        long least = NONE;
        for (int f = 0; f < facts; f++) {
            long by = askedBy(law, other, known, so, mean, f);
            least = by != NONE && (least == NONE || by < least) ? by : least;
        }
        best.put(key, least);
        return least;
    }

    private long askedBy(int law, int other, int known, int so, boolean mean, int f) {
        if (has(known, f) || barred[f]) {
            return NONE;
        }
        long yes = asked(law, other, known | 1 << f, so | 1 << f, mean);
        long no = asked(law, other, known | 1 << f, so, mean);
        if (yes == NONE || no == NONE) {
            return NONE;
        }
        return mean ? share(known, so) * minutes[f] + yes + no : minutes[f] + Math.max(yes, no);
    }

    private boolean mayAsk(int law, int other, int known, int so) {
        best = new HashMap<>();
        return isLaw(law) && (other == NONE || isLaw(other)) && isKnown(known, so);
    }

    long mean(int law, int other, int known, int so) {
        return mayAsk(law, other, known, so) ? asked(law, other, known, so, true) : NONE;
    }

    int worst(int law, int other, int known, int so) {
        return mayAsk(law, other, known, so) ? (int) asked(law, other, known, so, false) : NONE;
    }

    int best(int law, int other, int known, int so, int what) {
        if (what < 0 || what > 1 || !mayAsk(law, other, known, so) || told(law, other, known, so)) {
            return NONE;
        }
        long least = asked(law, other, known, so, what == 0);
        for (int f = 0; f < facts && least != NONE; f++) {
            if (askedBy(law, other, known, so, what == 0, f) == least) {
                return f;
            }
        }
        return NONE;
    }

    long cost(int form) {
        return isForm(form) ? costFrom(forms.get(form), 0, 0, 0) : NONE;
    }

    private long costFrom(List<Node> nodes, int at, int known, int so) {
        Node node = nodes.get(at);
        int bit = 1 << node.fact();
        long sum = share(known, so) * minutes[node.fact()];
        if (!has(known, node.fact()) || has(so, node.fact())) {
            sum += node.yes().startsWith("=") ? 0
                    : costFrom(nodes, Integer.parseInt(node.yes()), known | bit, so | bit);
        }
        if (!has(known, node.fact()) || !has(so, node.fact())) {
            sum += node.no().startsWith("=") ? 0 : costFrom(nodes, Integer.parseInt(node.no()), known | bit, so);
        }
        return sum;
    }

    int longest(int form) {
        if (!isForm(form)) {
            return NONE;
        }
        int most = 0;
        for (int c = 0; c < cases(); c++) {
            int sum = 0;
            for (int node : way(form, c)) {
                sum += minutes[forms.get(form).get(node).fact()];
            }
            most = Math.max(most, sum);
        }
        return most;
    }

    // ---- questions ----

    private int answersTo(int set, int c) {
        int bits = 0;
        for (int q : members(set)) {
            bits |= questions.get(q).test(c) ? 1 << q : 0;
        }
        return bits;
    }

    int page(int law) {
        if (!isLaw(law)) {
            return NONE;
        }
        int kept = NONE;
        int least = 0;
        for (int set = 0; set < 1 << questions.size(); set++) {
            int sum = members(set).stream().mapToInt(questionMinutes::get).sum();
            if ((kept == NONE || sum < least || sum == least && ahead(set, kept)) && tellsAll(set, law)) {
                kept = set;
                least = sum;
            }
        }
        return kept;
    }

    private boolean tellsAll(int set, int law) {
        Map<Integer, Integer> byAnswers = new HashMap<>();
        for (int c = 0; c < cases(); c++) {
            Integer before = byAnswers.put(answersTo(set, c), said(law, c));
            if (before != null && before != said(law, c)) {
                return false;
            }
        }
        return true;
    }

    int tells(int question, int law) {
        if (question < 0 || question >= questions.size() || !isLaw(law)) {
            return NONE;
        }
        int pairs = 0;
        for (int c = 0; c < cases(); c++) {
            for (int d = 0; d < c; d++) {
                boolean parted = questions.get(question).test(c) != questions.get(question).test(d);
                pairs += parted && said(law, c) != said(law, d) ? 1 : 0;
            }
        }
        return pairs;
    }

    int given(int law, int set, int answers, int what) {
        if (!isLaw(law) || set < 0 || set >= 1 << questions.size() || (set | answers) != set
                || what < 0 || what > 2) {
            return HIDDEN;
        }
        List<Integer> left = casesBy(set, answers);
        Set<Integer> told = new HashSet<>();
        for (int c : left) {
            told.add(said(law, c));
        }
        if (what == 0) {
            return told.size() == 1 ? told.iterator().next() : HIDDEN;
        }
        if (what == 1) {
            return left.size();
        }
        int next = NONE;
        for (int q = questions.size() - 1; q >= 0 && told.size() > 1; q--) {
            if (!has(set, q) && (next == NONE || worse(set, answers, q) <= worse(set, answers, next))) {
                next = q;
            }
        }
        return next;
    }

    private List<Integer> casesBy(int set, int answers) {
        List<Integer> left = new ArrayList<>();
        for (int c = 0; c < cases(); c++) {
            if (answersTo(set, c) == answers) {
                left.add(c);
            }
        }
        return left;
    }

    private int worse(int set, int answers, int q) {
        int more = set | 1 << q;
        return Math.max(casesBy(more, answers).size(), casesBy(more, answers | 1 << q).size());
    }

    // ---- wrong answers, people ----

    long off(int form, int law, int c) {
        return isForm(form) && isLaw(law) && isCase(c) ? offBy(form, law, c, wrongs) : NONE;
    }

    private long offBy(int form, int law, int c, int[] wrong) {
        return offFrom(forms.get(form), 0, 1, 1000000000000L, c, said(law, c), wrong);
    }

    /** How likely, times what is left of 10 to the 12 undivided, it says otherwise from a node on. */
    private long offFrom(List<Node> nodes, int at, long likely, long parts, int c, int due, int[] wrong) {
        if (likely == 0) {
            return 0;
        }
        Node node = nodes.get(at);
        long sum = 0;
        for (boolean answer : new boolean[] {true, false}) {
            String target = answer ? node.yes() : node.no();
            boolean right = has(c, node.fact()) == answer;
            long so = likely * (right ? 10 - wrong[node.fact()] : wrong[node.fact()]);
            if (!target.startsWith("=")) {
                sum += offFrom(nodes, Integer.parseInt(target), so, parts / 10, c, due, wrong);
            } else if (outcome(target) != due) {
                sum += so * (parts / 10);
            }
        }
        return sum;
    }

    int weak(int form, int law) {
        if (!isForm(form) || !isLaw(law)) {
            return NONE;
        }
        long[] sums = new long[facts];
        int lowest = 0;
        for (int f = 0; f < facts; f++) {
            int[] without = wrongs.clone();
            without[f] = 0;
            for (int c = 0; c < cases(); c++) {
                sums[f] += offBy(form, law, c, without);
            }
            lowest = sums[f] < sums[lowest] ? f : lowest;
        }
        return lowest;
    }

    int person(long seed, int what) {
        if (sorts.isEmpty() || what < 0 || what > 1) {
            return NONE;
        }
        BigInteger x = step(BigInteger.valueOf(seed));
        List<Integer> urn = new ArrayList<>();
        for (int s = 0; s < sorts.size(); s++) {
            for (int k = 0; k < sorts.get(s)[9]; k++) {
                urn.add(s);
            }
        }
        int sort = urn.get(drawn(x, urn.size()));
        int c = 0;
        for (int f = 0; f < facts; f++) {
            x = step(x);
            c += drawn(x, 10) < sorts.get(sort)[f] ? 1 << f : 0;
        }
        return what == 0 ? c : sort;
    }

    private static BigInteger step(BigInteger x) {
        return x.multiply(new BigInteger("6364136223846793005")).add(new BigInteger("1442695040888963407"))
                .mod(BigInteger.ONE.shiftLeft(64));
    }

    private static int drawn(BigInteger x, int n) {
        return x.shiftRight(33).mod(BigInteger.valueOf(n)).intValue();
    }

    long likely(int law, int outcome, int sort) {
        if (!isLaw(law) || outcome < -1 || outcome > 5 || sort < -1 || sort >= sorts.size()) {
            return NONE;
        }
        BigInteger all = BigInteger.ZERO;
        for (int c = 0; c < cases(); c++) {
            for (int s = 0; s < sorts.size(); s++) {
                if (said(law, c) == outcome && (sort == NONE || sort == s)) {
                    all = all.add(shareOf(s, cases() - 1, c));
                }
            }
        }
        return all.longValueExact();
    }

    // ---- changes ----

    int mend(int one, int other) {
        if (!isLaw(one) || !isLaw(other)) {
            return NONE;
        }
        int bits = 0;
        for (int k = 0; k < laws.get(other).size(); k++) {
            boolean same = k < laws.get(one).size();
            for (int c = 0; c < cases() && same; c++) {
                Clause a = laws.get(one).get(k);
                Clause b = laws.get(other).get(k);
                same = a.outcome() == b.outcome() && a.holds().test(c) == b.holds().test(c);
            }
            bits |= same ? 0 : 1 << k;
        }
        return bits;
    }

    int swap(int law, int i) {
        if (!isLaw(law) || i < 0 || i + 1 < 0 || i + 1 >= laws.get(law).size()) {
            return NONE;
        }
        List<Clause> turned = new ArrayList<>(laws.get(law));
        turned.add(i, turned.remove(i + 1));
        for (int c = 0; c < cases(); c++) {
            if (saysWith(turned, c, 0) != said(law, c)) {
                return 0;
            }
        }
        return 1;
    }

    int burden(int law, int clause) {
        if (!isLaw(law) || clause < -1 || clause >= laws.get(law).size()) {
            return NONE;
        }
        int idle = 0;
        int wanted = 0;
        for (int k = 0; k < laws.get(law).size(); k++) {
            int number = 0;
            for (int c = 0; c < cases(); c++) {
                number += saysWith(laws.get(law), c, 1 << k) != said(law, c) ? 1 : 0;
            }
            idle |= number == 0 ? 1 << k : 0;
            wanted = k == clause ? number : wanted;
        }
        return clause == NONE ? idle : wanted;
    }

    int office(int law, int one, int other) {
        if (!isLaw(law) || one < 0 || one >= facts || other < 0 || other >= facts || one == other) {
            return NONE;
        }
        int number = 0;
        for (int c = 0; c < cases(); c++) {
            int read = c & ~(1 << one) & ~(1 << other);
            read |= has(c, one) ? 1 << other : 0;
            read |= has(c, other) ? 1 << one : 0;
            number += said(law, read) != said(law, c) ? 1 : 0;
        }
        return number;
    }

    // ---- charts ----

    private List<Integer> orderOf(int order) {
        List<Integer> all = new ArrayList<>();
        int left = order;
        for (int k = 0; k < facts; k++) {
            all.add(0, left % facts);
            left /= facts;
        }
        return order >= 0 && left == 0 && new HashSet<>(all).size() == facts ? all : null;
    }

    /** What the law goes on to say by the facts from a place of the order on, for each way in which they may be. */
    private String goesOn(int law, List<Integer> order, int from, int so) {
        StringBuilder all = new StringBuilder();
        for (int bits = 0; bits < 1 << facts - from; bits++) {
            int c = so;
            for (int k = from; k < facts; k++) {
                c |= has(bits, facts - 1 - k) ? 1 << order.get(k) : 0;
            }
            all.append((char) ('1' + said(law, c)));
        }
        return all.toString();
    }

    private int[] boxes(int law, List<Integer> order) {
        int[] boxes = new int[facts];
        int ahead = 0;
        for (int k = 0; k < facts; k++) {
            Set<String> ways = new HashSet<>();
            for (int so = 0; so < cases(); so++) {
                if ((so | ahead) == ahead) {
                    String way = goesOn(law, order, k, so);
                    int half = way.length() / 2;
                    if (!way.substring(0, half).equals(way.substring(half))) {
                        ways.add(way);
                    }
                }
            }
            boxes[k] = ways.size();
            ahead |= 1 << order.get(k);
        }
        return boxes;
    }

    int chart(int law, int order, int what) {
        if (!isLaw(law) || orderOf(order) == null || what < 0 || what > 1) {
            return NONE;
        }
        int all = 0;
        int most = 0;
        for (int number : boxes(law, orderOf(order))) {
            all += number;
            most = Math.max(most, number);
        }
        return what == 0 ? all : most;
    }

    int least(int law, int what) {
        if (!isLaw(law) || what < 0 || what > 1) {
            return NONE;
        }
        int few = Integer.MAX_VALUE;
        int lowest = NONE;
        int numbers = 1;
        for (int f = 0; f < facts; f++) {
            numbers *= facts;
        }
        for (int order = 0; order < numbers; order++) {
            if (orderOf(order) != null && chart(law, order, 0) < few) {
                few = chart(law, order, 0);
                lowest = order;
            }
        }
        return what == 0 ? few : lowest;
    }

    int straight(int law, int order, int c) {
        if (!isLaw(law) || orderOf(order) == null || c < -1 || c >= cases()) {
            return NONE;
        }
        int most = 0;
        for (int person = 0; person < cases(); person++) {
            int known = 0;
            int sum = 0;
            for (int f : orderOf(order)) {
                if (mattersBy(law, f, known, person & known)) {
                    known |= 1 << f;
                    sum += minutes[f];
                }
            }
            if (person == c) {
                return members(known).size();
            }
            most = Math.max(most, sum);
        }
        return most;
    }

    private boolean mattersBy(int law, int fact, int known, int so) {
        for (int c = 0; c < cases(); c++) {
            if ((c & known) == so && said(law, c) != said(law, c ^ 1 << fact)) {
                return true;
            }
        }
        return false;
    }

    // ---- rulings ----

    int ruling(int c, int outcome) {
        if (!isCase(c) || outcome < -1 || outcome > 5 || rulings.size() == 20) {
            return NONE;
        }
        rulings.add(new int[] {c, outcome});
        return rulings.size();
    }

    private int againstWithout(int law, int struck) {
        int bits = 0;
        for (int r = 0; r < rulings.size(); r++) {
            bits |= saysWith(laws.get(law), rulings.get(r)[0], struck) != rulings.get(r)[1] ? 1 << r : 0;
        }
        return bits;
    }

    int against(int law) {
        return isLaw(law) ? againstWithout(law, 0) : NONE;
    }

    int cure(int law) {
        int kept = NONE;
        for (int set = 0; isLaw(law) && set < 1 << laws.get(law).size(); set++) {
            if ((kept == NONE || ahead(set, kept)) && againstWithout(law, set) == 0) {
                kept = set;
            }
        }
        return kept;
    }

    int count(int what) {
        int[] all = {laws.size(), questions.size(), forms.size(), sorts.size(), facts, tape.length(), rulings.size()};
        return what >= 0 && what < all.length ? all[what] : NONE;
    }
}
