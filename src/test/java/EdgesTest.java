import java.io.IOException;
import java.lang.reflect.InvocationTargetException;
import java.lang.reflect.Method;
import java.util.Arrays;
import java.util.Comparator;
import java.util.HashMap;
import java.util.HashSet;
import java.util.List;
import java.util.Map;
import java.util.Set;

/**
 * All promises: each sentence of the document that names a boundary case has a test of its own, which
 * names the promise and the sentence by Says. The words are looked up in the document, and a sentence
 * without a test is told.
 */
public final class EdgesTest {
    private static final Class<?>[] GROUPS = {
        TextEdges.class, SetupEdges.class, TokenEdges.class, HidingEdges.class, PairEdges.class,
        PlaceEdges.class, RepairEdges.class, MarkEdges.class, ChangeEdges.class, ScriptEdges.class,
        HistoryEdges.class, WholeEdges.class};

    /** Headings whose sentences say nothing that a call could answer, or that FaceTest holds. */
    private static final Set<String> WITHOUT_TESTS = Set.of("The public face", "Not promised");

    /** How such sentences begin that name no case: titles, and what the interface is parted into. */
    private static final List<String> WITHOUT_CASE = List.of(
        "A text in which brackets of told kinds are paired", "THE TEXT.", "PAIRS.", "REPAIRS.", "MARKS.",
        "TEXTS OF THE SETUP AND OF SCRIPTS.", "CHANGES.", "Ahead of the calls");

    private static final Map<String, Set<String>> quoted = new HashMap<>();

    public static void main(String[] args) throws IOException, IllegalAccessException {
        for (Class<?> group : GROUPS) {
            Method[] methods = group.getDeclaredMethods();
            Arrays.sort(methods, Comparator.comparing(Method::getName));
            for (Method method : methods) {
                Says says = method.getAnnotation(Says.class);
                if (says != null) {
                    run(group, method, says);
                }
            }
        }
        Check.about("");
        if (Doc.isThere()) {
            checkSentences(Doc.read());
        } else {
            System.out.println("EdgesTest: the document is not there to look its sentences up");
        }
        Check.finish("EdgesTest");
    }

    private static void run(Class<?> group, Method method, Says says) throws IllegalAccessException {
        quoted.computeIfAbsent(says.at(), at -> new HashSet<>()).add(says.words());
        Check.about(group.getName() + "." + method.getName() + " (" + says.at() + ", \"" + says.words() + "\"): ");
        int asked = Check.asked();
        try {
            method.invoke(null);
        } catch (InvocationTargetException e) {
            Check.dueText("the test", String.valueOf(e.getCause()), "no exception");
        }
        Check.due("number of answers asked for", Check.asked() > asked ? 1 : 0, 1);
    }

    private static void checkSentences(Doc doc) {
        for (String heading : quoted.keySet()) {
            for (String words : quoted.get(heading)) {
                Check.due(heading + " says \"" + words + "\"", doc.says(heading, words) ? 1 : 0, 1);
            }
        }
        for (String heading : doc.headings()) {
            for (String sentence : doc.sentencesAt(heading)) {
                if (!WITHOUT_TESTS.contains(heading) && WITHOUT_CASE.stream().noneMatch(sentence::startsWith)) {
                    Check.due(heading + ": a test for \"" + sentence + "\"", isQuoted(heading, sentence) ? 1 : 0, 1);
                }
            }
        }
    }

    private static boolean isQuoted(String heading, String sentence) {
        return quoted.getOrDefault(heading, Set.of()).stream().anyMatch(sentence::contains);
    }
}
