import java.io.IOException;
import java.nio.file.Files;
import java.nio.file.Path;
import java.util.List;
import java.util.regex.Matcher;
import java.util.regex.Pattern;

/** Looks through CoalForm.java for what ../shared/LANGUAGE.md rules out, so far as a plain search can tell. */
final class LanguageTests {
    private static final String[] BANNED = {
        "->", "::", "Exact\\(", "\\bfinally\\b", "\\bsynchronized\\b", "\\bassert\\b", "\\bcatch\\b", "\\bvar\\b",
        "\\bstatic\\s*\\{", "\\bSystem\\.(?!arraycopy)", "\\bThread\\b", "\\bRandom\\b", "\\bObject\\b", "\\bthis\\s*[,)]",
        "Math\\.(?!max\\b|min\\b|abs\\b|floorDiv\\b|floorMod\\b)", "Integer\\.(?!bitCount\\b|compare\\b)", "Long\\.",
        "\\bdouble\\b", "\\bfloat\\b", "\"", "@", "\\bprotected\\b", "\\bextends\\b", "\\bgetClass\\b", "\\bequals\\b"};
    private static final int MOST_LINES = 60;

    private LanguageTests() {
    }

    static void all(String file) throws IOException {
        List<String> lines = Files.readAllLines(Path.of(file));
        StringBuilder code = new StringBuilder();
        for (String line : lines) {
            Check.due("language: a sign beyond 127 in " + line, line.chars().allMatch(sign -> sign < 128), true);
            boolean comment = line.strip().startsWith("/") || line.strip().startsWith("*");
            code.append(comment ? "" : line.replaceAll("//.*", "")).append('\n');
        }
        for (String banned : BANNED) {
            Matcher found = Pattern.compile(banned).matcher(code);
            Check.due("language: " + banned + " stands in CoalForm.java", found.find(), false);
        }
        imports(lines);
        methods(lines);
    }

    private static void imports(List<String> lines) {
        for (String line : lines) {
            boolean brings = line.startsWith("import ") || line.startsWith("package ");
            Check.due("language: " + line, !brings || line.equals("import java.util.NoSuchElementException;"), true);
        }
    }

    /** A method starts with a line that ends in ") {" after four or eight blanks and ends with its brace alone. */
    private static void methods(List<String> lines) {
        for (int k = 0; k < lines.size(); k++) {
            Matcher start = Pattern.compile("^( {4}| {8})[^ /*].*\\(.*\\{$").matcher(lines.get(k));
            if (start.matches() && !lines.get(k).matches(" *(if|for|while|switch|do|\\}).*")) {
                int end = k;
                while (end < lines.size() && !lines.get(end).equals(start.group(1) + "}")) {
                    end++;
                }
                Check.due("language: lines of" + lines.get(k), end - k < MOST_LINES, true);
            }
        }
    }
}
