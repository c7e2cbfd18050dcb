import java.io.IOException;
import java.nio.file.Files;
import java.nio.file.Path;
import java.util.ArrayList;
import java.util.LinkedHashMap;
import java.util.List;
import java.util.Map;

/** The sentences of the document, by the headings under which they stand. */
final class Doc {
    private static final Path FILE = Path.of("../shared/DOC.md");

    private final Map<String, List<String>> sentences = new LinkedHashMap<>();

    private Doc() {
    }

    static boolean isThere() {
        return Files.isReadable(FILE);
    }

    static Doc read() throws IOException {
        Doc doc = new Doc();
        List<String> section = new ArrayList<>();
        for (String line : Files.readAllLines(FILE)) {
            if (line.startsWith("## ")) {
                section = new ArrayList<>();
                doc.sentences.put(line.substring(3).split(":")[0].trim(), section);
            } else if (!line.isBlank() && !line.startsWith("```") && !line.startsWith("#")) {
                String words = line.trim().replaceAll("\\s+", " ");
                section.addAll(List.of(words.split("(?<=\\.) (?=[A-Z\"`])")));
            }
        }
        return doc;
    }

    Iterable<String> headings() {
        return sentences.keySet();
    }

    List<String> sentencesAt(String heading) {
        return sentences.getOrDefault(heading, List.of());
    }

    boolean says(String heading, String words) {
        return sentencesAt(heading).stream().anyMatch(s -> s.contains(words));
    }
}
