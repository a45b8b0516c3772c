import java.util.NoSuchElementException;

/** One sentence of the document that names a boundary: what is checked stands on both sides of it. */
final class Edge {
    /** What says and leads answer here if they throw what they are to throw. */
    static final long THROWN = -99;
    /** Numbers that lie far out of every bound. */
    static final int[] FAR = {Integer.MIN_VALUE, -1000, 1000, 1 << 16, 1 << 30, Integer.MAX_VALUE};

    private static final boolean[] NAMED = new boolean[45];
    private static String document = "";

    private final String name;

    /** A call of the face, its answer as a number. */
    interface Call {
        long on(CoalForm x);
    }

    /** Calls that make an object what it is. */
    interface Steps {
        void on(CoalForm x);
    }

    private Edge(String name) {
        this.name = name;
    }

    /** The document, in which each sentence must stand as it is named. */
    static void read(String text) {
        document = joined(text);
    }

    static Edge of(int promise, String sentence) {
        NAMED[promise] = true;
        Check.due("the document says: " + sentence, document.contains(joined(sentence)), true);
        return new Edge("promise " + promise + ", \"" + sentence + "\": ");
    }

    static void allNamed() {
        for (int promise = 1; promise < NAMED.length; promise++) {
            Check.due("promise " + promise + " has a boundary's test", NAMED[promise], true);
        }
    }

    private static String joined(String text) {
        return text.replaceAll("\\s+", " ");
    }

    void due(String what, long got, long want) {
        Check.due(name + what, got, want);
    }

    void due(String what, boolean got, boolean want) {
        Check.due(name + what, got, want);
    }

    /** On an object that holds something of all: the call answers so, and nothing has changed by it. */
    void refused(String what, long want, Call call) {
        refusedAfter(what, want, Edge::nothing, call);
    }

    private static void nothing(CoalForm x) {
        x.count(0);
    }

    /** The same, behind some more steps. */
    void refusedAfter(String what, long want, Steps steps, Call call) {
        CoalForm tried = State.filled();
        CoalForm other = State.filled();
        steps.on(tried);
        steps.on(other);
        due(what, call.on(tried), want);
        State.same(name + what + " changes nothing", tried, other);
    }

    static long says(CoalForm x, int law, int cases) {
        try {
            return x.says(law, cases);
        } catch (NoSuchElementException none) {
            return none.getClass() == NoSuchElementException.class ? THROWN : THROWN - 1;
        }
    }

    static long leads(CoalForm x, int form, int cases) {
        try {
            return x.leads(form, cases);
        } catch (NoSuchElementException none) {
            return none.getClass() == NoSuchElementException.class ? THROWN : THROWN - 1;
        }
    }

    static long yes(boolean answer) {
        return answer ? 1 : 0;
    }
}
