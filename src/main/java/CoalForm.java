import java.util.NoSuchElementException;

/** Laws, questions and forms on facts that are so or not: README.md tells how it is used. */
public final class CoalForm {
    public static final int NONE = -1;
    public static final int HIDDEN = -2;

    private static final int MOST_FACTS = 9;
    private static final int MOST_LAWS = 6;
    private static final int MOST_QUESTIONS = 10;
    private static final int MOST_FORMS = 6;
    private static final int MOST_PIECES = 12;
    private static final int MOST_NESTED = 6;
    private static final int MOST_BYTES = 160;
    private static final int MOST_SORTS = 4;
    private static final int MOST_RULINGS = 20;
    private static final int MOST_OUTCOME = 5;
    private static final int MOST_MINUTES = 99;
    private static final int MOST_WEIGHT = 9;
    private static final int TEN = 10;

    private final Grid grid;
    private final Tape tape;
    private final Reader reader;
    private final Charts charts;
    private final Settings settings;
    private final People people;
    private final Asking asking;
    private final Questions paper;
    private final Rulings rulings;
    private final Law[] laws;
    private int lawCount;
    private final Form[] forms;
    private int formCount;
    private final int[] hits;
    private final long[] flows;

    public CoalForm(int facts) {
        int nearest = Math.max(1, Math.min(MOST_FACTS, facts));
        grid = new Grid(nearest);
        tape = new Tape();
        reader = new Reader(tape, nearest);
        charts = new Charts(grid);
        settings = new Settings(nearest);
        people = new People(nearest);
        asking = new Asking(grid, settings, people);
        paper = new Questions(grid.cases);
        rulings = new Rulings();
        laws = new Law[MOST_LAWS];
        forms = new Form[MOST_FORMS];
        hits = new int[grid.cases];
        flows = new long[MOST_PIECES];
    }

    // ---- texts ----

    public int feed(int a, int b, int c, int d, int e) {
        int more = Tape.signs(a) + Tape.signs(b) + Tape.signs(c) + Tape.signs(d) + Tape.signs(e);
        if (tape.length + more > MOST_BYTES) {
            return NONE;
        }
        tape.append(a);
        tape.append(b);
        tape.append(c);
        tape.append(d);
        tape.append(e);
        return tape.length;
    }

    public boolean end(int n) {
        if (n < 0 || n > tape.length) {
            return false;
        }
        tape.length = n;
        return true;
    }

    public int fault(int sort) {
        return sort < 0 || sort > 2 ? HIDDEN : reader.readAs(sort);
    }

    public int text(int sort) {
        if (sort < 0 || sort > 2 || reader.readAs(sort) != NONE) {
            return NONE;
        }
        int number = sort == 0 ? keepLaw() : sort == 1 ? keepQuestion() : keepForm();
        if (number != NONE) {
            tape.length = 0;
        }
        return number;
    }

    private int keepLaw() {
        if (lawCount >= MOST_LAWS) {
            return NONE;
        }
        Law law = new Law(reader.pieces, grid.cases, grid.states);
        System.arraycopy(reader.outcomes, 0, law.outcomes, 0, MOST_PIECES);
        for (int c = 0; c < grid.cases; c++) {
            law.holding[c] = reader.clausesThatHold(c);
            law.said[c] = law.outcomeOf(law.holding[c]);
        }
        charts.fillWays(law);
        laws[lawCount] = law;
        return lawCount++;
    }

    private int keepQuestion() {
        int number = paper.added();
        if (number != NONE) {
            for (int c = 0; c < grid.cases; c++) {
                if (reader.questionHolds(c)) {
                    paper.answers[c] |= 1 << number;
                }
            }
        }
        return number;
    }

    private int keepForm() {
        if (formCount >= MOST_FORMS) {
            return NONE;
        }
        forms[formCount] = reader.handOver();
        return formCount++;
    }

    private Law lawAt(int n) {
        return n >= 0 && n < lawCount ? laws[n] : null;
    }

    private Form formAt(int n) {
        return n >= 0 && n < formCount ? forms[n] : null;
    }

    // ---- what laws say ----

    public int says(int law, int cases) throws NoSuchElementException {
        Law wanted = lawAt(law);
        if (wanted == null || !grid.isCase(cases)) {
            throw new NoSuchElementException();
        }
        return wanted.said[cases];
    }

    public int clauses(int law, int cases) {
        Law wanted = lawAt(law);
        return wanted == null || !grid.isCase(cases) ? NONE : wanted.holding[cases];
    }

    public int gap(int law, int what, int i) {
        Law wanted = lawAt(law);
        if (wanted == null || what < 0 || what > 1) {
            return NONE;
        }
        int number = 0;
        for (int c = 0; c < grid.cases; c++) {
            if (what == 0 ? wanted.clashes(c) : wanted.said[c] == NONE) {
                hits[number++] = c;
            }
        }
        return hit(number, i);
    }

    private int hit(int number, int i) {
        if (i == NONE) {
            return number;
        }
        return i >= 0 && i < number && i < hits.length ? hits[i] : NONE;
    }

    private int hitsOfUnlike(int[] one, int[] other, int i) {
        int number = 0;
        for (int c = 0; c < grid.cases; c++) {
            if (one[c] != other[c]) {
                hits[number++] = c;
            }
        }
        return hit(number, i);
    }

    public int sure(int law, int known, int so) {
        Law wanted = lawAt(law);
        return wanted == null || !grid.isKnown(known, so) ? HIDDEN : wanted.sureAt(grid.place(known, so));
    }

    public int matters(int law, int what) {
        Law wanted = lawAt(law);
        if (wanted == null || what < 0 || what > 1) {
            return NONE;
        }
        int ever = 0;
        int always = grid.full;
        for (int c = 0; c < grid.cases; c++) {
            int here = factsThatMatter(wanted, c);
            ever |= here;
            always &= here;
        }
        return what == 0 ? ever : always;
    }

    private int factsThatMatter(Law law, int cases) {
        int bits = 0;
        for (int f = 0; f < grid.facts; f++) {
            if (law.said[cases] != law.said[cases ^ 1 << f]) {
                bits |= 1 << f;
            }
        }
        return bits;
    }

    public int proof(int law, int cases) {
        Law wanted = lawAt(law);
        if (wanted == null || !grid.isCase(cases)) {
            return NONE;
        }
        int set = NONE;
        for (int known = 0; known <= grid.full; known++) {
            if (isAhead(known, set) && wanted.isSureAt(grid.place(known, cases & known))) {
                set = known;
            }
        }
        return set;
    }

    public int parts(int one, int other, int i) {
        Law first = lawAt(one);
        Law second = lawAt(other);
        return first == null || second == null ? NONE : hitsOfUnlike(first.said, second.said, i);
    }

    // ---- what forms say ----

    public int leads(int form, int cases) throws NoSuchElementException {
        Form wanted = formAt(form);
        if (wanted == null || !grid.isCase(cases)) {
            throw new NoSuchElementException();
        }
        return wanted.outcomeOn(cases);
    }

    public int apart(int form, int law, int i) {
        Form wanted = formAt(form);
        Law by = lawAt(law);
        if (wanted == null || by == null) {
            return NONE;
        }
        int number = 0;
        for (int c = 0; c < grid.cases; c++) {
            if (wanted.outcomeOn(c) != by.said[c]) {
                hits[number++] = c;
            }
        }
        return hit(number, i);
    }

    public int unlike(int one, int other) {
        Form first = formAt(one);
        Form second = formAt(other);
        if (first == null || second == null) {
            return NONE;
        }
        for (int c = 0; c < grid.cases; c++) {
            if (first.outcomeOn(c) != second.outcomeOn(c)) {
                return c;
            }
        }
        return NONE;
    }

    public int spoiled(int form, int law) {
        Form wanted = formAt(form);
        Law by = lawAt(law);
        if (wanted == null || by == null) {
            return NONE;
        }
        int bits = 0;
        for (int c = 0; c < grid.cases; c++) {
            if (wanted.outcomeOn(c) != by.said[c]) {
                bits |= 1 << wanted.lastOn(c);
            }
        }
        return bits;
    }

    public int unused(int form) {
        Form wanted = formAt(form);
        if (wanted == null) {
            return NONE;
        }
        int used = 0;
        for (int c = 0; c < grid.cases; c++) {
            used |= wanted.nodesOn(c);
        }
        return (1 << wanted.nodes) - 1 & ~used;
    }

    // ---- settings and people ----

    public boolean set(int what, int n, int v) {
        asking.stale = true;
        return what == 1 ? paper.setMinutes(n, v) : settings.change(what, n, v);
    }

    public int sort(int weight) {
        asking.stale = true;
        return people.added(weight);
    }

    public boolean chance(int sort, int fact, int v) {
        asking.stale = true;
        return people.setChance(sort, fact, v);
    }

    public long share(int known, int so) {
        return grid.isKnown(known, so) ? people.shareOfAll(known, so) : NONE;
    }

    public int person(long seed, int what) {
        if (people.sorts == 0 || what < 0 || what > 1) {
            return NONE;
        }
        return people.drawn(seed, what == 0);
    }

    public long likely(int law, int outcome, int sort) {
        Law wanted = lawAt(law);
        if (wanted == null || !isOutcome(outcome) || sort < NONE || sort >= people.sorts) {
            return NONE;
        }
        long sum = 0;
        for (int c = 0; c < grid.cases; c++) {
            if (wanted.said[c] == outcome) {
                sum += sort == NONE ? people.shareOfAll(grid.full, c) : people.shareOfOne(sort, grid.full, c);
            }
        }
        return sum;
    }

    private static boolean isOutcome(int outcome) {
        return outcome >= NONE && outcome <= MOST_OUTCOME;
    }

    // ---- asking out ----

    public long mean(int law, int other, int known, int so) {
        return isReady(law, other, known, so) ? asking.means[grid.place(known, so)] : NONE;
    }

    public int worst(int law, int other, int known, int so) {
        return isReady(law, other, known, so) ? asking.worsts[grid.place(known, so)] : NONE;
    }

    public int best(int law, int other, int known, int so, int what) {
        if (what < 0 || what > 1 || !isReady(law, other, known, so)) {
            return NONE;
        }
        return asking.lowestBest(grid.place(known, so), grid.full & ~known, what == 0);
    }

    private boolean isReady(int law, int other, int known, int so) {
        Law first = lawAt(law);
        Law second = lawAt(other);
        if (first == null || second == null && other != NONE || !grid.isKnown(known, so)) {
            return false;
        }
        asking.prepare(first, second, known, so);
        return true;
    }

    public long cost(int form) {
        Form wanted = formAt(form);
        if (wanted == null) {
            return NONE;
        }
        // The share of what is known is that of all cases which agree with it, so each case pays its own way.
        long sum = 0;
        for (int c = 0; c < grid.cases; c++) {
            sum += people.shareOfAll(grid.full, c) * minutesOn(wanted, c);
        }
        return sum;
    }

    public int longest(int form) {
        Form wanted = formAt(form);
        if (wanted == null) {
            return NONE;
        }
        int most = 0;
        for (int c = 0; c < grid.cases; c++) {
            most = Math.max(most, minutesOn(wanted, c));
        }
        return most;
    }

    private int minutesOn(Form form, int cases) {
        int bits = form.nodesOn(cases);
        int sum = 0;
        for (int node = 0; node < form.nodes; node++) {
            if ((bits >> node & 1) != 0) {
                sum += settings.minutes[form.facts[node]];
            }
        }
        return sum;
    }

    // ---- questions ----

    public int page(int law) {
        Law wanted = lawAt(law);
        return wanted == null ? NONE : paper.cheapestThatTells(wanted.said);
    }

    public int tells(int question, int law) {
        Law wanted = lawAt(law);
        if (wanted == null || question < 0 || question >= paper.number) {
            return NONE;
        }
        return paper.pairsParted(question, wanted.said);
    }

    public int given(int law, int questions, int answers, int what) {
        Law wanted = lawAt(law);
        if (wanted == null || what < 0 || what > 2 || !paper.isSet(questions) || (answers & ~questions) != 0) {
            return HIDDEN;
        }
        if (what == 1) {
            return paper.casesGiven(questions, answers);
        }
        int told = paper.toldGiven(wanted.said, questions, answers);
        if (what == 0) {
            return told;
        }
        return told == HIDDEN ? paper.nextGiven(questions, answers) : NONE;
    }

    // ---- wrong answers ----

    public long off(int form, int law, int cases) {
        Form wanted = formAt(form);
        Law by = lawAt(law);
        return wanted == null || by == null || !grid.isCase(cases) ? NONE : offOn(wanted, by, cases, NONE);
    }

    public int weak(int form, int law) {
        Form wanted = formAt(form);
        Law by = lawAt(law);
        if (wanted == null || by == null) {
            return NONE;
        }
        int weakest = NONE;
        long least = 0;
        for (int f = 0; f < grid.facts; f++) {
            long sum = 0;
            for (int c = 0; c < grid.cases; c++) {
                sum += offOn(wanted, by, c, f);
            }
            if (weakest == NONE || sum < least) {
                weakest = f;
                least = sum;
            }
        }
        return weakest;
    }

    private long offOn(Form form, Law law, int cases, int alwaysRight) {
        // Twelve nodes at most stand on a way, so that each tenth of 10 to the 12 is whole.
        for (int node = 0; node < MOST_PIECES; node++) {
            flows[node] = 0;
        }
        flows[0] = 1000000000000L;
        long sum = 0;
        for (int node = 0; node < form.nodes; node++) {
            int fact = form.facts[node];
            long wrong = fact == alwaysRight ? 0 : flows[node] / TEN * settings.wrongs[fact];
            boolean so = (cases >> fact & 1) != 0;
            long yes = so ? flows[node] - wrong : wrong;
            sum += offBehind(form.yes[node], yes, law.said[cases]);
            sum += offBehind(form.no[node], flows[node] - yes, law.said[cases]);
        }
        return sum;
    }

    private long offBehind(int target, long flow, int said) {
        if (target >= 0 && target < MOST_PIECES) {
            flows[target] += flow;
            return 0;
        }
        return target - Form.SAID == said ? 0 : flow;
    }

    // ---- changed laws ----

    public int mend(int one, int other) {
        Law first = lawAt(one);
        Law second = lawAt(other);
        if (first == null || second == null) {
            return NONE;
        }
        int unlike = 0;
        for (int c = 0; c < grid.cases; c++) {
            unlike |= first.holding[c] ^ second.holding[c];
        }
        for (int clause = 0; clause < second.clauseCount; clause++) {
            if (clause >= first.clauseCount || first.outcomes[clause] != second.outcomes[clause]) {
                unlike |= 1 << clause;
            }
        }
        return unlike & (1 << second.clauseCount) - 1;
    }

    public int swap(int law, int i) {
        Law wanted = lawAt(law);
        if (wanted == null || i < 0 || i >= wanted.clauseCount - 1) {
            return NONE;
        }
        if (wanted.outcomes[i] == wanted.outcomes[i + 1]) {
            return 1;
        }
        for (int c = 0; c < grid.cases; c++) {
            if ((wanted.holding[c] & (4 << i) - 1) == 3 << i) {
                return 0;
            }
        }
        return 1;
    }

    public int burden(int law, int clause) {
        Law wanted = lawAt(law);
        if (wanted == null || clause < NONE || clause >= wanted.clauseCount) {
            return NONE;
        }
        if (clause != NONE) {
            return burdenOf(wanted, clause);
        }
        int idle = 0;
        for (int k = 0; k < wanted.clauseCount; k++) {
            if (burdenOf(wanted, k) == 0) {
                idle |= 1 << k;
            }
        }
        return idle;
    }

    private int burdenOf(Law law, int clause) {
        int number = 0;
        for (int c = 0; c < grid.cases; c++) {
            if (law.outcomeOf(law.holding[c] & ~(1 << clause)) != law.said[c]) {
                number++;
            }
        }
        return number;
    }

    public int office(int law, int one, int other) {
        Law wanted = lawAt(law);
        if (wanted == null || !grid.isFact(one) || !grid.isFact(other) || one == other) {
            return NONE;
        }
        int number = 0;
        for (int c = 0; c < grid.cases; c++) {
            boolean alike = (c >> one & 1) == (c >> other & 1);
            int read = alike ? c : c ^ (1 << one | 1 << other);
            if (wanted.said[read] != wanted.said[c]) {
                number++;
            }
        }
        return number;
    }

    // ---- charts and orders ----

    public int chart(int law, int order, int what) {
        Law wanted = lawAt(law);
        if (wanted == null || what < 0 || what > 1 || !charts.keepOrder(order)) {
            return NONE;
        }
        return charts.boxesInOrder(wanted, what == 1);
    }

    public int least(int law, int what) {
        Law wanted = lawAt(law);
        if (wanted == null || what < 0 || what > 1) {
            return NONE;
        }
        charts.findLeast(wanted);
        return what == 0 ? wanted.leastSize : wanted.leastOrder;
    }

    public int straight(int law, int order, int cases) {
        Law wanted = lawAt(law);
        if (wanted == null || cases != NONE && !grid.isCase(cases) || !charts.keepOrder(order)) {
            return NONE;
        }
        if (cases != NONE) {
            return Integer.bitCount(charts.askedInOrder(wanted, cases));
        }
        int most = 0;
        for (int c = 0; c < grid.cases; c++) {
            most = Math.max(most, settings.minutesOf(charts.askedInOrder(wanted, c)));
        }
        return most;
    }

    // ---- rulings ----

    public int ruling(int cases, int outcome) {
        return grid.isCase(cases) && isOutcome(outcome) ? rulings.added(cases, outcome) : NONE;
    }

    public int against(int law) {
        Law wanted = lawAt(law);
        return wanted == null ? NONE : rulings.againstWithout(wanted, 0);
    }

    public int cure(int law) {
        Law wanted = lawAt(law);
        if (wanted == null) {
            return NONE;
        }
        int set = NONE;
        for (int struck = 0; struck < 1 << wanted.clauseCount; struck++) {
            if (isAhead(struck, set) && rulings.againstWithout(wanted, struck) == 0) {
                set = struck;
            }
        }
        return set;
    }

    public int count(int what) {
        switch (what) {
            case 0:
                return lawCount;
            case 1:
                return paper.number;
            case 2:
                return formCount;
            case 3:
                return people.sorts;
            case 4:
                return grid.facts;
            case 5:
                return tape.length;
            case 6:
                return rulings.number;
            default:
                return NONE;
        }
    }

    // ---- sets as bits ----

    /** The lowest of them, 32 for none. */
    private static int lowest(int bits) {
        return Integer.bitCount((bits & -bits) - 1);
    }

    /** Whether a set goes ahead of the one kept (or NONE): smaller, or with the lower one where they first differ. */
    private static boolean isAhead(int set, int kept) {
        if (kept == NONE) {
            return true;
        }
        int more = Integer.bitCount(set) - Integer.bitCount(kept);
        int unlike = set ^ kept;
        return more < 0 || more == 0 && (set & unlike & -unlike) != 0;
    }

    /** All that may be known has a place: a number to the base of three, of each fact 0 not known, 1 not so, 2 so. */
    private static final class Grid {
        final int facts;
        final int full;
        final int cases;
        final int states;
        final int[] units;
        final int[] sums;

        Grid(int facts) {
            this.facts = facts;
            cases = 1 << facts;
            full = cases - 1;
            units = new int[facts];
            sums = new int[cases];
            int unit = 1;
            for (int f = 0; f < facts; f++) {
                units[f] = unit;
                for (int below = 0; below < 1 << f; below++) {
                    sums[1 << f | below] = sums[below] + unit;
                }
                unit *= 3;
            }
            states = unit;
        }

        boolean isFact(int fact) {
            return fact >= 0 && fact < facts;
        }

        boolean isCase(int bits) {
            return bits >= 0 && bits <= full;
        }

        boolean isKnown(int known, int so) {
            return isCase(known) && (so & ~known) == 0;
        }

        int place(int known, int so) {
            return sums[known] + sums[so];
        }
    }

    /** The bytes that came, and where a reader stands in them. */
    private static final class Tape {
        final int[] bytes = new int[MOST_BYTES];
        int length;
        int at;
        int wrong = NONE;

        static int signs(int number) {
            int signs = 0;
            for (int shift = 24; shift >= 0; shift -= 8) {
                signs += (number >> shift & 255) == 0 ? 0 : 1;
            }
            return signs;
        }

        void append(int number) {
            for (int shift = 24; shift >= 0; shift -= 8) {
                int sign = number >> shift & 255;
                if (sign != 0 && length < MOST_BYTES) {
                    bytes[length++] = sign;
                }
            }
        }

        void rewind() {
            at = 0;
            wrong = NONE;
        }

        /** The byte here, blanks too; 0 at the end. */
        int here() {
            return at >= 0 && at < length ? bytes[at] : 0;
        }

        /** The next byte that is no blank; 0 at the end. */
        int next() {
            for (int k = 0; k < MOST_BYTES && here() == ' '; k++) {
                at++;
            }
            return here();
        }

        boolean passes(char sign) {
            if (next() != sign) {
                return false;
            }
            at++;
            return true;
        }

        boolean needs(char sign) {
            return passes(sign) || miss(at);
        }

        boolean miss(int where) {
            wrong = where;
            return false;
        }

        boolean hasDigit() {
            return here() >= '0' && here() <= '9';
        }
    }

    /** Reads the tape as a law, a question or a form; conditions become code that a stack of bits runs. */
    private static final class Reader {
        static final int AT_LEAST = 0;
        static final int NOT = 1;
        static final int AND = 2;
        static final int OR = 3;

        final Tape tape;
        final int facts;
        final int[] code = new int[MOST_BYTES];
        int codes;
        int pieces;
        final int[] outcomes = new int[MOST_PIECES];
        final int[] starts = new int[MOST_PIECES];
        final int[] unlesses = new int[MOST_PIECES];
        final int[] ends = new int[MOST_PIECES];
        Form form = new Form();
        int highestNumber;

        Reader(Tape tape, int facts) {
            this.tape = tape;
            this.facts = facts;
        }

        /** The fault of the tape as a law (0), a question (1), a form (2). */
        int readAs(int sort) {
            tape.rewind();
            codes = 0;
            pieces = 0;
            highestNumber = 0;
            if (sort == 1) {
                boolean whole = condition(0) && (tape.next() == 0 || tape.miss(tape.at));
                return whole ? NONE : tape.wrong;
            }
            boolean more = true;
            for (int piece = 0; piece < MOST_PIECES && more; piece++) {
                more = (sort == 0 ? clause(piece) : node(piece)) && goesOn(piece);
            }
            if (tape.wrong == NONE && sort == 2 && highestNumber >= pieces) {
                tape.miss(tape.length);
            }
            return tape.wrong;
        }

        private boolean goesOn(int piece) {
            pieces = piece + 1;
            if (tape.next() == 0) {
                return false;
            }
            return pieces == MOST_PIECES ? tape.miss(tape.at) : tape.needs(';');
        }

        private boolean clause(int piece) {
            int sign = tape.next();
            if (sign < '0' || sign > '0' + MOST_OUTCOME) {
                return tape.miss(tape.at);
            }
            tape.at++;
            outcomes[piece] = sign - '0';
            starts[piece] = codes;
            if (!tape.needs(':') || !condition(0)) {
                return false;
            }
            unlesses[piece] = codes;
            boolean whole = !tape.passes('u') || condition(0);
            ends[piece] = codes;
            return whole;
        }

        private boolean condition(int depth) {
            boolean right = part(depth);
            for (int k = 0; k < MOST_BYTES && right && tape.passes('|'); k++) {
                right = part(depth) && emit(OR);
            }
            return right;
        }

        private boolean part(int depth) {
            boolean right = unit(depth);
            for (int k = 0; k < MOST_BYTES && right && tape.passes('&'); k++) {
                right = unit(depth) && emit(AND);
            }
            return right;
        }

        private boolean unit(int depth) {
            int sign = tape.next();
            if (sign == '!' || sign == '(') {
                return depth < MOST_NESTED ? nested(sign, depth + 1) : tape.miss(tape.at);
            }
            if (sign >= '1' && sign <= '9') {
                return several(sign - '0');
            }
            if (!isLetter(sign)) {
                return tape.miss(tape.at);
            }
            tape.at++;
            return emit(atLeast(1, 1 << sign - 'a'));
        }

        private boolean nested(int sign, int depth) {
            tape.at++;
            if (sign == '!') {
                return unit(depth) && emit(NOT);
            }
            return condition(depth) && tape.needs(')');
        }

        private boolean several(int least) {
            tape.at++;
            if (tape.here() != '#') {
                return tape.miss(tape.at);
            }
            tape.at++;
            int letters = 0;
            for (int k = 0; k <= MOST_FACTS && isLetter(tape.next()); k++) {
                int letter = 1 << tape.here() - 'a';
                if ((letters & letter) != 0) {
                    return tape.miss(tape.at);
                }
                letters |= letter;
                tape.at++;
            }
            return letters == 0 ? tape.miss(tape.at) : emit(atLeast(least, letters));
        }

        private boolean isLetter(int sign) {
            return sign >= 'a' && sign < 'a' + facts;
        }

        private static int atLeast(int least, int letters) {
            return (least << MOST_FACTS | letters) << 2 | AT_LEAST;
        }

        private boolean emit(int step) {
            if (codes >= MOST_BYTES) {
                return tape.miss(tape.at);
            }
            code[codes++] = step;
            return true;
        }

        private boolean node(int piece) {
            int sign = tape.next();
            if (!isLetter(sign)) {
                return tape.miss(tape.at);
            }
            tape.at++;
            form.facts[piece] = sign - 'a';
            if (!tape.needs('>')) {
                return false;
            }
            form.yes[piece] = target(piece);
            if (form.yes[piece] == NONE || !tape.needs(',')) {
                return false;
            }
            form.no[piece] = target(piece);
            return form.no[piece] != NONE;
        }

        /** A target, as a form keeps it; NONE if it is wrong. */
        private int target(int own) {
            int sign = tape.next();
            if (sign >= '0' && sign <= '9') {
                return numberAbove(own);
            }
            if (!tape.needs('=')) {
                return NONE;
            }
            sign = tape.next();
            if (sign != '-' && (sign < '0' || sign > '0' + MOST_OUTCOME)) {
                tape.miss(tape.at);
                return NONE;
            }
            tape.at++;
            return Form.SAID + (sign == '-' ? NONE : sign - '0');
        }

        private int numberAbove(int own) {
            int number = 0;
            for (int digits = 0; digits < 2 && tape.hasDigit(); digits++) {
                number = number * TEN + tape.here() - '0';
                tape.at++;
            }
            if (tape.hasDigit()) {
                tape.miss(tape.at);
                return NONE;
            }
            if (number <= own || number >= MOST_PIECES) {
                tape.miss(tape.at - 1);
                return NONE;
            }
            highestNumber = Math.max(highestNumber, number);
            return number;
        }

        /** The form that was read; the next one is read into a new one. */
        Form handOver() {
            Form read = form;
            read.nodes = pieces;
            form = new Form();
            return read;
        }

        int clausesThatHold(int cases) {
            int bits = 0;
            for (int piece = 0; piece < pieces; piece++) {
                boolean unless = unlesses[piece] < ends[piece] && isSo(unlesses[piece], ends[piece], cases);
                if (!unless && isSo(starts[piece], unlesses[piece], cases)) {
                    bits |= 1 << piece;
                }
            }
            return bits;
        }

        boolean questionHolds(int cases) {
            return isSo(0, codes, cases);
        }

        private boolean isSo(int from, int to, int cases) {
            // Two operands wait at most at each of seven depths, so that the bits of a long are enough.
            long stack = 0;
            for (int k = from; k < to; k++) {
                int operand = code[k] >> 2;
                long top = stack & 1;
                switch (code[k] & 3) {
                    case NOT:
                        stack ^= 1;
                        break;
                    case AND:
                        stack = stack >>> 1 & (top | ~1L);
                        break;
                    case OR:
                        stack = stack >>> 1 | top;
                        break;
                    default:
                        int number = Integer.bitCount(operand & cases & (1 << MOST_FACTS) - 1);
                        stack = stack << 1 | (number >= operand >> MOST_FACTS ? 1 : 0);
                        break;
                }
            }
            return (stack & 1) != 0;
        }
    }

    /** A law by cases, and by places: which way what it says may go on from there. */
    private static final class Law {
        /** Ways below this are sure: what is said and one more. */
        static final int UNSURE = MOST_OUTCOME + 2;

        final int clauseCount;
        final int[] outcomes = new int[MOST_PIECES];
        final int[] holding;
        final int[] said;
        final int[] ways;
        int leastSize = NONE;
        int leastOrder = NONE;

        Law(int clauseCount, int cases, int states) {
            this.clauseCount = clauseCount;
            holding = new int[cases];
            said = new int[cases];
            ways = new int[states];
        }

        int outcomeOf(int clauses) {
            int first = lowest(clauses);
            return first < clauseCount ? outcomes[first] : NONE;
        }

        boolean clashes(int cases) {
            for (int k = 0; k < clauseCount; k++) {
                if ((holding[cases] >> k & 1) != 0 && outcomes[k] != said[cases]) {
                    return true;
                }
            }
            return false;
        }

        boolean isSureAt(int place) {
            return ways[place] < UNSURE;
        }

        int sureAt(int place) {
            return isSureAt(place) ? ways[place] - 1 : HIDDEN;
        }
    }

    /** A form: of each node its fact and its targets. */
    private static final class Form {
        /** A target that says an outcome is that outcome and this; numbers of nodes lie below. */
        static final int SAID = MOST_PIECES + 1;

        int nodes;
        final int[] facts = new int[MOST_PIECES];
        final int[] yes = new int[MOST_PIECES];
        final int[] no = new int[MOST_PIECES];

        private int targetOn(int node, int cases) {
            return (cases >> facts[node] & 1) != 0 ? yes[node] : no[node];
        }

        /** The node to which a case leads last. */
        int lastOn(int cases) {
            int last = 0;
            int at = 0;
            for (int step = 0; step < MOST_PIECES && at < nodes; step++) {
                last = at;
                at = targetOn(at, cases);
            }
            return last;
        }

        int outcomeOn(int cases) {
            return targetOn(lastOn(cases), cases) - SAID;
        }

        /** The nodes to which a case leads, as bits. */
        int nodesOn(int cases) {
            int bits = 0;
            int at = 0;
            for (int step = 0; step < MOST_PIECES && at < nodes; step++) {
                bits |= 1 << at;
                at = targetOn(at, cases);
            }
            return bits;
        }
    }

    /** Of each fact its minutes, how often it is answered wrong, whether it is barred. */
    private static final class Settings {
        final int facts;
        final int[] minutes;
        final int[] wrongs;
        int barred;

        Settings(int facts) {
            this.facts = facts;
            minutes = new int[facts];
            wrongs = new int[facts];
            for (int f = 0; f < facts; f++) {
                minutes[f] = 1;
            }
        }

        boolean change(int what, int fact, int v) {
            if (fact < 0 || fact >= facts || v < 0) {
                return false;
            }
            if (what == 0 && v >= 1 && v <= MOST_MINUTES) {
                minutes[fact] = v;
                return true;
            }
            if (what == 2 && v <= 1) {
                barred = barred & ~(1 << fact) | v << fact;
                return true;
            }
            if (what == 3 && v <= TEN) {
                wrongs[fact] = v;
                return true;
            }
            return false;
        }

        int minutesOf(int bits) {
            int sum = 0;
            for (int f = 0; f < facts; f++) {
                if ((bits >> f & 1) != 0) {
                    sum += minutes[f];
                }
            }
            return sum;
        }
    }

    /** Sorts of people. */
    private static final class People {
        final int facts;
        int sorts;
        final int[] weights = new int[MOST_SORTS];
        final int[][] chances;

        People(int facts) {
            this.facts = facts;
            chances = new int[MOST_SORTS][facts];
            for (int s = 0; s < MOST_SORTS; s++) {
                for (int f = 0; f < facts; f++) {
                    chances[s][f] = TEN / 2;
                }
            }
        }

        int added(int weight) {
            if (weight < 1 || weight > MOST_WEIGHT || sorts >= MOST_SORTS) {
                return NONE;
            }
            weights[sorts] = weight;
            return sorts++;
        }

        boolean setChance(int sort, int fact, int v) {
            if (sort < 0 || sort >= sorts || fact < 0 || fact >= facts || v < 0 || v > TEN) {
                return false;
            }
            chances[sort][fact] = v;
            return true;
        }

        long shareOfOne(int sort, int known, int so) {
            long product = weights[sort];
            for (int f = 0; f < facts; f++) {
                int likely = chances[sort][f];
                boolean isKnown = (known >> f & 1) != 0;
                boolean isSo = (so >> f & 1) != 0;
                product *= !isKnown ? TEN : isSo ? likely : TEN - likely;
            }
            return product;
        }

        long shareOfAll(int known, int so) {
            long sum = 0;
            for (int s = 0; s < sorts; s++) {
                sum += shareOfOne(s, known, so);
            }
            return sum;
        }

        /** One of the people by a seed: the case, or else the sort. */
        int drawn(long seed, boolean asCase) {
            long x = stepped(seed);
            int sort = sortOf(draw(x, allWeights()));
            int cases = 0;
            for (int f = 0; f < facts; f++) {
                x = stepped(x);
                if (draw(x, TEN) < chances[sort][f]) {
                    cases |= 1 << f;
                }
            }
            return asCase ? cases : sort;
        }

        private static long stepped(long x) {
            return x * 6364136223846793005L + 1442695040888963407L;
        }

        private static int draw(long x, int n) {
            return n < 1 ? 0 : (int) ((x >>> 33) % n);
        }

        private int allWeights() {
            int sum = 0;
            for (int s = 0; s < sorts; s++) {
                sum += weights[s];
            }
            return sum;
        }

        private int sortOf(int drawn) {
            int left = drawn;
            for (int s = 0; s < sorts; s++) {
                left -= weights[s];
                if (left < 0) {
                    return s;
                }
            }
            return 0;
        }
    }

    /** From each place the least mean and worst minutes until one law, or two, are sure. */
    private static final class Asking {
        final Grid grid;
        final Settings settings;
        final People people;
        final long[] shares;
        final long[] means;
        final int[] worsts;
        Law one;
        Law other;
        /** The tables are filled for all that goes on from here. */
        int rootKnown;
        int rootSo;
        /** Set by each call that may change minutes, bars or shares: until then the tables are used again. */
        boolean stale = true;

        Asking(Grid grid, Settings settings, People people) {
            this.grid = grid;
            this.settings = settings;
            this.people = people;
            shares = new long[grid.states];
            means = new long[grid.states];
            worsts = new int[grid.states];
        }

        void prepare(Law first, Law second, int known, int so) {
            if (!stale && first == one && second == other && isFilled(known, so)) {
                return;
            }
            one = first;
            other = second;
            rootKnown = known;
            rootSo = so;
            stale = false;
            // The more is known the earlier it is filled, since each place is worked out from such ones.
            int open = grid.full & ~known;
            int more = open;
            for (int k = 0; k < 1 << Integer.bitCount(open); k++) {
                fillAll(more);
                more = more - 1 & open;
            }
        }

        private boolean isFilled(int known, int so) {
            return (rootKnown & ~known) == 0 && (so & rootKnown) == rootSo;
        }

        private void fillAll(int more) {
            int known = rootKnown | more;
            int so = 0;
            for (int k = 0; k < 1 << Integer.bitCount(more); k++) {
                int place = grid.place(known, rootSo | so);
                shares[place] = shareAt(place, known, rootSo | so);
                fill(place, grid.full & ~known);
                so = so - more & more;
            }
        }

        private long shareAt(int place, int known, int so) {
            if (known == grid.full) {
                return people.shareOfAll(known, so);
            }
            int unit = grid.units[lowest(grid.full & ~known)];
            return shares[place + unit] + shares[place + 2 * unit];
        }

        private void fill(int place, int open) {
            boolean sure = isSureAt(place);
            long mean = sure ? 0 : NONE;
            int worst = sure ? 0 : NONE;
            for (int f = 0; f < grid.facts && !sure; f++) {
                if (mayAsk(f, open)) {
                    long byMean = meanBy(place, f);
                    int byWorst = worstBy(place, f);
                    mean = byMean != NONE && (mean == NONE || byMean < mean) ? byMean : mean;
                    worst = byWorst != NONE && (worst == NONE || byWorst < worst) ? byWorst : worst;
                }
            }
            means[place] = mean;
            worsts[place] = worst;
        }

        private boolean isSureAt(int place) {
            return one.isSureAt(place) && (other == null || other.isSureAt(place));
        }

        private boolean mayAsk(int fact, int open) {
            return (open & ~settings.barred & 1 << fact) != 0;
        }

        private long meanBy(int place, int fact) {
            long no = means[place + grid.units[fact]];
            long yes = means[place + 2 * grid.units[fact]];
            return no == NONE || yes == NONE ? NONE : shares[place] * settings.minutes[fact] + no + yes;
        }

        private int worstBy(int place, int fact) {
            int no = worsts[place + grid.units[fact]];
            int yes = worsts[place + 2 * grid.units[fact]];
            return no == NONE || yes == NONE ? NONE : settings.minutes[fact] + Math.max(no, yes);
        }

        /** The lowest open fact that leads to the mean, or else to the worst, of a place. */
        int lowestBest(int place, int open, boolean byMean) {
            if (isSureAt(place) || worsts[place] == NONE) {
                return NONE;
            }
            for (int f = 0; f < grid.facts; f++) {
                if (mayAsk(f, open)
                        && (byMean ? meanBy(place, f) == means[place] : worstBy(place, f) == worsts[place])) {
                    return f;
                }
            }
            return NONE;
        }
    }

    /** Which ways what a law says may go on, and the boxes of its charts by orders. */
    private static final class Charts {
        final Grid grid;
        /** No set of facts has more ways: with one fact open 42 unlike pairs, else no more than places. */
        final int side;
        final int[] stamps;
        final int[] numbers;
        final int[] rests;
        final int[] order;
        int stamp;
        int nextWay;

        Charts(Grid grid) {
            this.grid = grid;
            side = Law.UNSURE + Math.max(Law.UNSURE * (Law.UNSURE - 1), grid.cases / 4);
            stamps = new int[side * side];
            numbers = new int[side * side];
            rests = new int[grid.cases];
            order = new int[grid.facts];
        }

        /** Places by the same facts have the same way just if the law goes on alike from them. */
        void fillWays(Law law) {
            for (int known = grid.full; known >= 0; known--) {
                stamp++;
                nextWay = Law.UNSURE;
                int so = 0;
                for (int k = 0; k < 1 << Integer.bitCount(known); k++) {
                    int place = grid.place(known, so);
                    law.ways[place] = known == grid.full ? law.said[so] + 1 : joined(law, place, known);
                    so = so - known & known;
                }
            }
        }

        private int joined(Law law, int place, int known) {
            int unit = grid.units[lowest(grid.full & ~known)];
            int no = law.ways[place + unit];
            int yes = law.ways[place + 2 * unit];
            if (no == yes && no < Law.UNSURE) {
                return no;
            }
            int pair = no * side + yes;
            if (pair < 0 || pair >= stamps.length) {
                // Never so, by the side of the table: a way of its own would only count a box too many.
                return nextWay++;
            }
            if (stamps[pair] != stamp) {
                stamps[pair] = stamp;
                numbers[pair] = nextWay++;
            }
            return numbers[pair];
        }

        private boolean mattersAt(Law law, int place, int fact) {
            int unit = grid.units[fact];
            return law.ways[place + unit] != law.ways[place + 2 * unit];
        }

        /** Boxes of a fact with these ahead of it. */
        private int boxes(Law law, int ahead, int fact) {
            int number = 0;
            int so = 0;
            stamp++;
            for (int k = 0; k < 1 << Integer.bitCount(ahead); k++) {
                int place = grid.place(ahead, so);
                int way = law.ways[place];
                if (mattersAt(law, place, fact) && way < stamps.length && stamps[way] != stamp) {
                    stamps[way] = stamp;
                    number++;
                }
                so = so - ahead & ahead;
            }
            return number;
        }

        /** Whether a number is an order of all facts; it is kept then. */
        boolean keepOrder(int number) {
            int left = number;
            int seen = 0;
            for (int k = grid.facts - 1; k >= 0 && left >= 0; k--) {
                order[k] = left % grid.facts;
                seen |= 1 << order[k];
                left /= grid.facts;
            }
            return left == 0 && seen == grid.full;
        }

        /** Boxes in the order kept: all, or the most of one fact. */
        int boxesInOrder(Law law, boolean widest) {
            int all = 0;
            int most = 0;
            int ahead = 0;
            for (int k = 0; k < grid.facts; k++) {
                int number = boxes(law, ahead, order[k]);
                all += number;
                most = Math.max(most, number);
                ahead |= 1 << order[k];
            }
            return widest ? most : all;
        }

        /** Facts that are asked on a case in the order kept, as bits. */
        int askedInOrder(Law law, int cases) {
            int known = 0;
            for (int k = 0; k < grid.facts; k++) {
                if (mattersAt(law, grid.place(known, cases & known), order[k])) {
                    known |= 1 << order[k];
                }
            }
            return known;
        }

        /** Boxes of a fact hang on the set ahead of it alone, so that the fewest are found set by set. */
        void findLeast(Law law) {
            if (law.leastSize != NONE) {
                return;
            }
            rests[grid.full] = 0;
            for (int ahead = grid.full - 1; ahead >= 0; ahead--) {
                rests[ahead] = fewest(law, ahead);
            }
            int number = 0;
            int ahead = 0;
            for (int k = 0; k < grid.facts; k++) {
                int fact = lowestNext(law, ahead);
                number = number * grid.facts + fact;
                ahead |= 1 << fact;
            }
            law.leastSize = rests[0];
            law.leastOrder = number;
        }

        private int fewest(Law law, int ahead) {
            int few = NONE;
            for (int f = 0; f < grid.facts; f++) {
                if ((ahead >> f & 1) == 0) {
                    int size = boxes(law, ahead, f) + rests[ahead | 1 << f];
                    few = few == NONE || size < few ? size : few;
                }
            }
            return few;
        }

        private int lowestNext(Law law, int ahead) {
            for (int f = 0; f < grid.facts; f++) {
                if ((ahead >> f & 1) == 0 && boxes(law, ahead, f) + rests[ahead | 1 << f] == rests[ahead]) {
                    return f;
                }
            }
            return 0;
        }
    }

    /** Questions: how they are answered on each case, as bits. */
    private static final class Questions {
        int number;
        final int[] minutes = new int[MOST_QUESTIONS];
        final int[] answers;
        final int[] marks = new int[1 << MOST_QUESTIONS];
        final int[] yes = new int[MOST_OUTCOME + 2];
        final int[] no = new int[MOST_OUTCOME + 2];
        int mark;

        Questions(int cases) {
            answers = new int[cases];
        }

        int added() {
            if (number >= MOST_QUESTIONS) {
                return NONE;
            }
            minutes[number] = 1;
            return number++;
        }

        boolean setMinutes(int question, int v) {
            if (question < 0 || question >= number || v < 1 || v > MOST_MINUTES) {
                return false;
            }
            minutes[question] = v;
            return true;
        }

        boolean isSet(int bits) {
            return bits >= 0 && bits < 1 << number;
        }

        int cheapestThatTells(int[] said) {
            int kept = NONE;
            int least = 0;
            for (int set = 0; set < 1 << number; set++) {
                int sum = minutesOf(set);
                boolean ahead = kept == NONE || sum < least || sum == least && isAhead(set, kept);
                if (ahead && isToldBy(set, said)) {
                    kept = set;
                    least = sum;
                }
            }
            return kept;
        }

        private int minutesOf(int set) {
            int sum = 0;
            for (int q = 0; q < number; q++) {
                if ((set >> q & 1) != 0) {
                    sum += minutes[q];
                }
            }
            return sum;
        }

        /** A mark tells of which check it is and what is said, so that no row need be cleared. */
        private boolean isToldBy(int set, int[] said) {
            mark++;
            for (int c = 0; c < answers.length; c++) {
                int mine = mark << 3 | said[c] + 1;
                int at = answers[c] & set;
                if (marks[at] >> 3 != mark) {
                    marks[at] = mine;
                } else if (marks[at] != mine) {
                    return false;
                }
            }
            return true;
        }

        int pairsParted(int question, int[] said) {
            int allYes = 0;
            for (int o = 0; o < yes.length; o++) {
                yes[o] = 0;
                no[o] = 0;
            }
            for (int c = 0; c < answers.length; c++) {
                if ((answers[c] >> question & 1) != 0) {
                    yes[said[c] + 1]++;
                    allYes++;
                } else {
                    no[said[c] + 1]++;
                }
            }
            int pairs = 0;
            for (int o = 0; o < yes.length; o++) {
                pairs += (allYes - yes[o]) * no[o];
            }
            return pairs;
        }

        int casesGiven(int set, int given) {
            int cases = 0;
            for (int c = 0; c < answers.length; c++) {
                cases += (answers[c] & set) == given ? 1 : 0;
            }
            return cases;
        }

        /** What is said on all cases that answer so; HIDDEN if that is open, or there are none. */
        int toldGiven(int[] said, int set, int given) {
            int told = HIDDEN;
            for (int c = 0; c < answers.length; c++) {
                if ((answers[c] & set) == given) {
                    if (told != HIDDEN && told != said[c]) {
                        return HIDDEN;
                    }
                    told = said[c];
                }
            }
            return told;
        }

        int nextGiven(int set, int given) {
            int cases = casesGiven(set, given);
            int next = NONE;
            int fewest = cases + 1;
            for (int q = 0; q < number && cases > 0; q++) {
                if ((set >> q & 1) == 0) {
                    int so = casesGiven(set | 1 << q, given | 1 << q);
                    int worse = Math.max(so, cases - so);
                    if (worse < fewest) {
                        fewest = worse;
                        next = q;
                    }
                }
            }
            return next;
        }
    }

    /** Rulings: on a case what should be said. */
    private static final class Rulings {
        int number;
        final int[] cases = new int[MOST_RULINGS];
        final int[] outcomes = new int[MOST_RULINGS];

        int added(int onCase, int outcome) {
            if (number >= MOST_RULINGS) {
                return NONE;
            }
            cases[number] = onCase;
            outcomes[number] = outcome;
            number++;
            return number;
        }

        /** Rulings of which a law without some of its clauses says otherwise, as bits. */
        int againstWithout(Law law, int struck) {
            int bits = 0;
            for (int r = 0; r < number; r++) {
                if (law.outcomeOf(law.holding[cases[r]] & ~struck) != outcomes[r]) {
                    bits |= 1 << r;
                }
            }
            return bits;
        }
    }
}
