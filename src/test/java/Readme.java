import java.io.IOException;
import java.nio.file.Files;
import java.nio.file.Path;
import java.util.ArrayList;
import java.util.List;
import java.util.regex.Matcher;
import java.util.regex.Pattern;

/** The Java code of README.md, as a class that holds each answer told there against the one that is given. */
final class Readme {
    private static final Path FILE = Path.of("README.md");

    /** A call, with a variable for its answer or not, and behind it the answer that the page tells. */
    private static final Pattern TOLD = Pattern.compile(
        "(?:(int|boolean|double|float|String) (\\w+) = )?(.*);\\s*"
            + "// (NONE|true|false|throws \\w+|-?\\d+(?:\\.\\d+)?|\"(?:[^\"\\\\]|\\\\.)*\")(?:: .*)?");
    private static final String OBJECT = "BracketHall hall = new BracketHall();";

    private final List<String> lines;
    private final List<String> functions = new ArrayList<>();
    private final List<String> examples = new ArrayList<>();
    private final List<String> withoutAnswer = new ArrayList<>();
    private int answers = 0;

    private Readme(List<String> lines) {
        this.lines = lines;
    }

    static Readme read() throws IOException {
        Readme readme = new Readme(Files.readAllLines(FILE));
        int begin = -1;
        for (int i = 0; i < readme.lines.size(); i++) {
            if (readme.lines.get(i).equals("```java")) {
                begin = i + 1;
            } else if (begin >= 0 && readme.lines.get(i).equals("```")) {
                readme.addBlock(begin, i);
                begin = -1;
            }
        }
        return readme;
    }

    private void addBlock(int begin, int end) {
        List<String> block = lines.subList(begin, end);
        if (block.stream().anyMatch(line -> line.startsWith("static "))) {
            functions.addAll(block);
            return;
        }
        StringBuilder body = new StringBuilder();
        for (int i = begin; i < end; i++) {
            if (!lines.get(i).isBlank()) {
                body.append(statement(i + 1, lines.get(i))).append('\n');
            }
        }
        examples.add(body.toString());
    }

    private String statement(int number, String line) {
        if (line.equals(OBJECT)) {
            return line;
        }
        Matcher told = TOLD.matcher(line);
        if (!told.matches()) {
            withoutAnswer.add("line " + number + ": " + line);
            return "";
        }
        answers++;
        String answer = told.group(4);
        String due = answer.startsWith("throws ") ? "\"" + answer + "\""
            : answer.equals("NONE") ? "BracketHall.NONE" : answer;
        String call = told.group(3);
        String held = "ReadmeTest.due(" + number + ", String.valueOf(" + due + "), () -> ";
        if (told.group(1) == null) {
            return held + call + ");";
        }
        return told.group(1) + " " + told.group(2) + " = " + call + ";\n" + held + told.group(2) + ");";
    }

    /** The class that is to be compiled: a function for each example, and main, which calls them all. */
    String source(String name) {
        StringBuilder source = new StringBuilder("public final class " + name + " {\n");
        functions.forEach(line -> source.append(line).append('\n'));
        StringBuilder main = new StringBuilder("public static void main(String[] none) {\n");
        for (int i = 0; i < examples.size(); i++) {
            source.append("static void example").append(i).append("() {\n").append(examples.get(i)).append("}\n");
            main.append("example").append(i).append("();\n");
        }
        return source.append(main).append("}\n}\n").toString();
    }

    int answers() {
        return answers;
    }

    List<String> withoutAnswer() {
        return withoutAnswer;
    }

    /** Whether an example calls this method of the class, or a function of the page does. */
    boolean calls(String method) {
        return (String.join("\n", functions) + String.join("\n", examples)).contains("hall." + method + "(");
    }

    boolean says(String words) {
        return lines.stream().anyMatch(line -> line.contains(words));
    }
}
