import java.io.File;
import java.io.IOException;
import java.lang.reflect.Method;
import java.lang.reflect.Modifier;
import java.net.URL;
import java.net.URLClassLoader;
import java.nio.file.Files;
import java.nio.file.Path;
import javax.tools.JavaCompiler;
import javax.tools.ToolProvider;

/** What README.md shows: each example is compiled and run, with the answers told there; run in the project's folder. */
public final class ReadmeTest {
    private static final String EXAMPLES = "ReadmeExamples";

    private static int asked = 0;

    /** What an example asks for. */
    public interface Asked {
        Object answer();
    }

    private ReadmeTest() {
    }

    public static void main(String[] args) throws IOException, ReflectiveOperationException {
        Readme readme = Readme.read();
        for (String line : readme.withoutAnswer()) {
            Check.dueText("README.md " + line, "no answer", "an answer");
        }
        for (Method method : BracketHall.class.getDeclaredMethods()) {
            if (Modifier.isPublic(method.getModifiers())) {
                Check.due("README.md shows " + method.getName(), readme.calls(method.getName()) ? 1 : 0, 1);
            }
        }
        checkTests(readme);
        runExamples(readme);
        Check.due("answers of README.md that were asked for", asked, readme.answers());
        Check.finish("ReadmeTest");
    }

    /** Called by the examples: holds the answer of a line of README.md against the one that it tells. */
    public static void due(int line, String want, Asked call) {
        asked++;
        String got;
        try {
            got = String.valueOf(call.answer());
        } catch (RuntimeException e) {
            got = "throws " + e.getClass().getSimpleName();
        }
        Check.dueText("README.md line " + line, got, want);
    }

    private static void checkTests(Readme readme) {
        for (String file : new File("src/test/java").list()) {
            if (file.endsWith("Test.java")) {
                String name = file.substring(0, file.length() - ".java".length());
                Check.due("README.md names " + name, readme.says("| `" + name + "` |") ? 1 : 0, 1);
            }
        }
        Check.due("README.md says how all tests are run", readme.says("    .ci/run") ? 1 : 0, 1);
    }

    private static void runExamples(Readme readme) throws IOException, ReflectiveOperationException {
        JavaCompiler compiler = ToolProvider.getSystemJavaCompiler();
        Check.due("a compiler is there", compiler != null ? 1 : 0, 1);
        if (compiler == null) {
            return;
        }
        Path folder = Files.createTempDirectory("readme");
        Path source = folder.resolve(EXAMPLES + ".java");
        Files.writeString(source, readme.source(EXAMPLES));
        String classPath = System.getProperty("java.class.path");
        int failed = compiler.run(null, null, null, "-d", folder.toString(), "-cp", classPath, source.toString());
        Check.due("compiling the examples", failed, 0);
        if (failed == 0) {
            try (URLClassLoader loader = new URLClassLoader(new URL[] {folder.toUri().toURL()})) {
                loader.loadClass(EXAMPLES).getMethod("main", String[].class).invoke(null, (Object) new String[0]);
            }
        }
        for (File file : folder.toFile().listFiles()) {
            Files.delete(file.toPath());
        }
        Files.delete(folder);
    }
}
