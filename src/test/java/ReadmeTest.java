import java.io.IOException;
import java.lang.reflect.Field;
import java.lang.reflect.InvocationTargetException;
import java.net.URL;
import java.net.URLClassLoader;
import java.nio.file.Files;
import java.nio.file.Path;
import java.util.ArrayList;
import java.util.List;
import java.util.regex.Matcher;
import java.util.regex.Pattern;
import javax.tools.JavaCompiler;
import javax.tools.ToolProvider;

/**
 * README.md keeps its word: its example is compiled as it stands and answers what is said behind each call, its
 * calls are those of the document in its order and words, and the refusals have the values that it tells.
 */
public final class ReadmeTest {
    private static final Path README = Path.of("README.md");
    private static final Path DOC = Path.of(System.getProperty("shared", "../shared"), "DOC.md");
    private static final int CALLS = 40;
    private static final Pattern ASKED = Pattern.compile("(show\\.\\w+\\(.*?\\));\\s*// (-?\\d+|BAD|NOT|FULL|STATE|VOID|Long\\.MIN_VALUE)(:.*)?");
    private static int wrong = 0;

    public static void main(String[] args) throws Exception {
        String readme = Files.readString(README);
        exampleAnswers(readme);
        callsAreTheDocuments(readme, Files.readString(DOC));
        refusalsHaveTheirValues(readme);
        System.out.println(wrong == 0 ? "README.md keeps its word" : wrong + " wrong in README.md");
        if (wrong != 0) System.exit(1);
    }

    private static void wrong(String what) {
        wrong++;
        System.out.println("README.md: " + what);
    }

    // ---- the example

    private static void exampleAnswers(String readme) throws Exception {
        Matcher block = Pattern.compile("(?s)```java\n(.*?)```").matcher(readme);
        if (!block.find()) {
            wrong("there is no example");
            return;
        }
        String[] lines = block.group(1).split("\n");
        if (block.find()) wrong("an example that is not run");
        run(asProgram(lines));
    }

    /** The lines as they stand, with each answer compared. */
    private static String asProgram(String[] lines) {
        StringBuilder program = new StringBuilder("public final class ReadmeExample {\n");
        for (String name : new String[] {"BAD", "NOT", "FULL", "STATE", "VOID"}) {
            program.append("static final int ").append(name).append(" = ChangeDoors.").append(name).append(";\n");
        }
        program.append("static int wrong = 0;\n");
        program.append("static void due(String call, long got, long due) { if (got == due) return; wrong++;\n");
        program.append("System.out.println(\"README.md: \" + call + \" answered \" + got + \", it says \" + due); }\n");
        program.append("public static int run() {\n");
        int asked = 0;
        for (String line : lines) {
            Matcher m = ASKED.matcher(line);
            if (m.matches()) {
                asked++;
                String shown = m.group(1).replace("\\", "\\\\").replace("\"", "\\\"");
                program.append("due(\"").append(shown).append("\", ").append(m.group(1)).append(", ").append(m.group(2)).append(");\n");
            } else {
                if (!line.contains("new ChangeDoors()") && !line.startsWith("for ")) wrong("a call without its answer: " + line);
                program.append(line).append('\n');
            }
        }
        if (asked == 0) wrong("the example tells no answer");
        return program.append("return wrong;\n}\n}\n").toString();
    }

    private static void run(String program) throws Exception {
        JavaCompiler compiler = ToolProvider.getSystemJavaCompiler();
        Path place = Files.createTempDirectory("readme");
        try {
            Path source = place.resolve("ReadmeExample.java");
            Files.writeString(source, program);
            String classes = System.getProperty("java.class.path");
            if (compiler.run(null, null, null, "-nowarn", "-cp", classes, "-d", place.toString(), source.toString()) != 0) {
                wrong("the example does not compile");
                return;
            }
            try (URLClassLoader loader = new URLClassLoader(new URL[] {place.toUri().toURL()})) {
                wrong += (Integer) loader.loadClass("ReadmeExample").getMethod("run").invoke(null);
            } catch (InvocationTargetException e) {
                wrong("the example threw " + e.getCause());
            }
        } finally {
            clear(place);
        }
    }

    private static void clear(Path place) throws IOException {
        List<Path> files;
        try (var found = Files.list(place)) {
            files = found.toList();
        }
        for (Path file : files) Files.delete(file);
        Files.delete(place);
    }

    // ---- the calls

    private static void callsAreTheDocuments(String readme, String doc) {
        List<String> due = new ArrayList<>();
        Matcher promise = Pattern.compile("(?m)^## Promise \\d+: \\w+\n\n(`(?:int|long) .*)$").matcher(doc);
        while (promise.find()) due.add(promise.group(1));
        List<String> said = new ArrayList<>();
        Matcher call = Pattern.compile("(?m)^- (`(?:int|long) .*)\n  - \\S").matcher(readme);
        while (call.find()) said.add(call.group(1));
        if (due.size() != CALLS) wrong("the document has " + due.size() + " calls, not " + CALLS);
        if (said.size() != due.size()) wrong(said.size() + " calls with what their answers mean, the document has " + due.size());
        for (int k = 0; k < Math.min(due.size(), said.size()); k++) {
            if (!said.get(k).equals(due.get(k))) wrong("call " + (k + 1) + " is " + said.get(k) + "\n  in the document it is " + due.get(k));
        }
    }

    // ---- the refusals

    private static void refusalsHaveTheirValues(String readme) throws IllegalAccessException {
        for (Field f : ChangeDoors.class.getFields()) mustHave(readme, "| `" + f.getName() + "` | " + f.getInt(null) + " |");
        for (int k = 11; k <= 14; k++) mustHave(readme, "| | -" + k + " |");
        mustHave(readme, "| `Long.MIN_VALUE` | " + Long.MIN_VALUE + " |");
    }

    private static void mustHave(String readme, String text) {
        if (!readme.contains("\n" + text)) wrong("it lacks " + text);
    }
}
