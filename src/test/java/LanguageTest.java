import java.io.IOException;
import java.nio.file.Files;
import java.nio.file.Path;
import java.util.List;
import java.util.regex.Matcher;
import java.util.regex.Pattern;

/** The rules of LANGUAGE.md that can be seen in the source's words; run in the project's folder. */
public final class LanguageTest {
    private static final String SOURCE = "src/main/java/BracketHall.java";

    /** What may not stand in the source, with the number of the rule. */
    private static final String[] FORBIDDEN = {
        "2 ->", "2 ::", "5 \\bstatic\\s*\\{", "6 \\bfinally\\b", "6 \\btry\\b", "6 \\bcatch\\b",
        "6 \\bsynchronized\\b", "6 \\bassert\\b", "6 \\bextends\\s+\\w*Exception", "6 \\.getMessage\\b",
        "6 \\b(equals|hashCode|toString)\\s*\\(\\s*(Object\\b|\\))", "4 \\bSystem\\.(?!arraycopy\\b)",
        "4 \\bMath\\.\\w*Exact\\b", "4 \\bMath\\.(?!min\\b|max\\b|abs\\b|floorDiv\\b|floorMod\\b)",
        "1 \\bprotected\\b", "1 \\bpackage\\b", "13 \\bThread\\b", "13 \\bRandom\\b", "3 \\bvar\\b", "3 \\bObject\\b",
        "10 \"\\s*\\+", "10 \\+\\s*\"", "6 \\bthrow\\s+(?!new (IllegalStateException|IllegalArgumentException"
            + "|IndexOutOfBoundsException|ArithmeticException|UnsupportedOperationException"
            + "|NoSuchElementException|RuntimeException)\\(\"[^\"]*\"\\);)"};

    public static void main(String[] args) throws IOException {
        String source = Files.readString(Path.of(SOURCE));
        String code = source.replaceAll("(?s)/\\*.*?\\*/", "").replaceAll("//[^\n]*", "");
        for (String rule : FORBIDDEN) {
            int space = rule.indexOf(' ');
            Matcher found = Pattern.compile(rule.substring(space + 1)).matcher(code);
            Check.dueText("rule " + rule, found.find() ? found.group() : "", "");
        }
        Check.dueText("rule 4 imports", String.join("\n", source.lines().filter(l -> l.startsWith("import")).toList()),
            "import java.util.NoSuchElementException;");
        Check.due("rule 3 characters", source.chars().filter(c -> c > 126).count(), 0);
        checkClasses(code);
        checkLengths(source.lines().toList());
        Check.finish("LanguageTest");
    }

    private static void checkClasses(String code) {
        Matcher classes = Pattern.compile("\\bclass \\w+").matcher(code);
        int count = 0;
        while (classes.find()) {
            count++;
        }
        Check.due("rule 11 more than 12 classes", count > 12 ? 1 : 0, 0);
    }

    /** A method begins with a line that ends in its brace and has its own indent again at its end. */
    private static void checkLengths(List<String> lines) {
        Pattern head = Pattern.compile("^( {4}| {8})(?! |if|for|while|switch|do|else|\\}|private static final class).*\\{$");
        for (int i = 0; i < lines.size(); i++) {
            Matcher found = head.matcher(lines.get(i));
            if (found.find()) {
                int end = i;
                while (end < lines.size() && !lines.get(end).equals(found.group(1) + "}")) {
                    end++;
                }
                Check.due("rule 11 long method: " + lines.get(i).trim(), end - i > 60 ? end - i : 0, 0);
            }
        }
    }
}
