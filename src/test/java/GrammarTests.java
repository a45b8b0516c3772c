import java.util.regex.Matcher;
import java.util.regex.Pattern;

/**
 * Term 1 as three regular expressions: every text to a length, each held against the longest beginning that a
 * matcher still wants to go on with. No hand-written reader takes part in what is due.
 */
final class GrammarTests {
    private static final int FACTS = 2;
    private static final String B = " *";
    private static final String LETTERS = "(?:a(?:" + B + "b)?|b(?:" + B + "a)?)";
    private static final String CONDITION = conditionWithin(6);
    private static final String CLAUSE = B + "[0-5]" + B + ":" + CONDITION + "(?:" + B + "u" + CONDITION + ")?";
    private static final String TARGET = "(?:" + B + "[0-9]{1,2}|" + B + "=" + B + "[-0-5])";
    private static final String NODE = B + "[ab]" + B + ">" + TARGET + B + "," + TARGET;
    private static final Pattern[] TEXTS = {
        Pattern.compile(CLAUSE + "(?:" + B + ";" + CLAUSE + "){0,11}" + B),
        Pattern.compile(CONDITION + B),
        Pattern.compile(NODE + "(?:" + B + ";" + NODE + "){0,11}" + B)};

    private static int looked;

    private GrammarTests() {
    }

    static void all() {
        every(0, "", 7, "05:abcu|!(1#; ");
        every(0, "0:", 7, "ab|!(1#)");
        every(0, "0:a;0:a;0:a;0:a;0:a;0:a;0:a;0:a;0:a;0:", 6, "0:a; u");
        every(1, "", 6, "abc&|!()19#0 ");
        every(1, "!(!(!", 5, "ab|!()2#");
        every(1, "((((((", 5, "ab&!()");
        every(2, "", 7, "ab>=-05,; 1");
        every(2, "a>", 7, "0123=,; ");
        every(2, "a>1,2;b>", 7, "123,=;b>");
        every(2, "a>=1,=2;a>=1,=2;a>=1,=2;a>=1,=2;a>=1,=2;a>=1,=2;a>=1,=2;a>=1,=2;a>=1,=2;a>=1,=2;b>", 6, "0119=,;");
        Check.due("grammar: enough texts were looked at", looked > 200000, true);
    }

    private static String conditionWithin(int nested) {
        String plain = "[ab]|[1-9]#" + B + LETTERS;
        String unit = B + "(?:" + plain + ")";
        for (int k = 0; k < nested; k++) {
            unit = B + "(?:" + plain + "|!" + unit + "|\\(" + chain(unit) + B + "\\))";
        }
        return chain(unit);
    }

    /** What may follow one another is the same for | and &: which binds is no matter of signs. */
    private static String chain(String unit) {
        return unit + "(?:" + B + "[|&]" + unit + ")*+";
    }

    /** From a beginning on all that goes on with these signs, and each first sign that does not. */
    private static void every(int sort, String text, int more, String signs) {
        for (int k = 0; k < signs.length() && more > 0; k++) {
            String next = text + signs.charAt(k);
            int due = faultOf(sort, next, text.length());
            looked++;
            Check.due("grammar: fault(" + sort + ") of '" + next + "'", got(sort, next), due);
            if (goesOn(TEXTS[sort], next)) {
                every(sort, next, more - 1, signs);
            } else {
                Check.due("grammar: fault(" + sort + ") of '" + next + "b'", got(sort, next + "b"), due);
            }
        }
    }

    private static int got(int sort, String text) {
        CoalForm x = new CoalForm(FACTS);
        Check.put(x, text);
        int fault = x.fault(sort);
        Check.due("grammar: text(" + sort + ") of '" + text + "'", x.text(sort) == 0, fault == CoalForm.NONE);
        return fault;
    }

    /** The fault of a text of which so many signs are known to be right. */
    private static int faultOf(int sort, String text, int right) {
        int end = right;
        while (end < text.length() && goesOn(TEXTS[sort], text.substring(0, end + 1))) {
            end++;
        }
        if (sort == 2) {
            end = Math.min(end, firstWrongNumber(text));
        }
        if (end < text.length()) {
            return end;
        }
        return TEXTS[sort].matcher(text).matches() && (sort != 2 || allThere(text)) ? CoalForm.NONE : end;
    }

    private static boolean goesOn(Pattern pattern, String beginning) {
        Matcher matcher = pattern.matcher(beginning);
        return matcher.matches() || matcher.hitEnd();
    }

    /** Numbers stand behind > and commas; those of outcomes behind =. */
    private static Matcher numbers(String text) {
        return Pattern.compile("(?<=[>,] {0,9})[0-9]+").matcher(text);
    }

    private static int firstWrongNumber(String text) {
        Matcher number = numbers(text);
        while (number.find()) {
            int own = (int) text.substring(0, number.start()).chars().filter(sign -> sign == ';').count();
            if (number.group().length() > 2) {
                return number.start() + 2;
            }
            int value = Integer.parseInt(number.group());
            if (value <= own || value > 11) {
                return number.end() - 1;
            }
        }
        return text.length();
    }

    private static boolean allThere(String text) {
        int nodes = (int) text.chars().filter(sign -> sign == ';').count() + 1;
        Matcher number = numbers(text);
        while (number.find()) {
            if (Integer.parseInt(number.group()) >= nodes) {
                return false;
            }
        }
        return true;
    }
}
