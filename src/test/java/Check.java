/** Counts what holds and what does not, and packs texts into the numbers that feed takes. */
final class Check {
    static int passed = 0;
    static int failed = 0;

    private Check() {
    }

    static void due(String what, long got, long want) {
        if (got == want) {
            passed++;
            return;
        }
        failed++;
        if (failed <= 40) {
            System.out.println(what + " answered " + got + ", due is " + want);
        }
    }

    static void due(String what, boolean got, boolean want) {
        due(what, got ? 1 : 0, want ? 1 : 0);
    }

    /** Four bytes of a text from a place on, the highest first; 0 behind its end. */
    static int word(String text, int from) {
        int word = 0;
        for (int k = from; k < from + 4; k++) {
            word = word << 8 | (k < text.length() ? text.charAt(k) & 255 : 0);
        }
        return word;
    }

    /** Puts a text on an emptied tape; answers what the last feed did. */
    static int put(CoalForm x, String text) {
        x.end(0);
        int has = 0;
        for (int k = 0; k < text.length(); k += 20) {
            has = x.feed(word(text, k), word(text, k + 4), word(text, k + 8), word(text, k + 12), word(text, k + 16));
        }
        return has;
    }

    static int add(CoalForm x, int sort, String text) {
        put(x, text);
        return x.text(sort);
    }

    static int law(CoalForm x, String text) {
        return add(x, 0, text);
    }

    static int question(CoalForm x, String text) {
        return add(x, 1, text);
    }

    static int form(CoalForm x, String text) {
        return add(x, 2, text);
    }

    static int faultOf(CoalForm x, int sort, String text) {
        put(x, text);
        return x.fault(sort);
    }
}
