import java.io.IOException;
import java.net.URL;
import java.net.URLClassLoader;
import java.nio.file.Files;
import java.nio.file.Path;
import java.util.ArrayList;
import java.util.List;
import java.util.regex.Matcher;
import java.util.regex.Pattern;
import javax.tools.ToolProvider;

/** README.md's examples, as one program: what a comment says that a call answers or throws must be so. */
public final class ReadmeTest {
    private static final Pattern BLOCK = Pattern.compile("```java\n(.*?)```", Pattern.DOTALL);
    private static final Pattern CHECKED = Pattern.compile("(?:int (\\w+) = )?(house\\..*\\)); +// (?:= (-?\\w+)|throws (\\w+)).*");
    private static final Path PLACE = Path.of("build", "readme");
    /** So that examples which this test no longer finds don't pass. */
    private static final int LEAST_CHECKED = 70;

    private final StringBuilder methods = new StringBuilder();
    private final StringBuilder body = new StringBuilder();
    private final List<String> calls = new ArrayList<>();
    private final List<String> due = new ArrayList<>();

    public static void main(String[] args) throws IOException, ReflectiveOperationException {
        ReadmeTest test = new ReadmeTest();
        Matcher block = BLOCK.matcher(Files.readString(Path.of("README.md")));
        while (block.find()) {
            test.add(block.group(1));
        }
        List<String> answers = test.answers();
        int wrong = test.calls.size() < LEAST_CHECKED ? 1 : 0;
        for (int i = 0; i < answers.size(); i++) {
            if (!test.due.get(i).equals(answers.get(i))) {
                wrong++;
                System.out.println(test.calls.get(i) + " answered " + answers.get(i) + ", README.md says " + test.due.get(i));
            }
        }
        System.exit(wrong > 0 ? 1 : 0);
    }

    private void add(String block) {
        if (block.startsWith("static ")) {
            methods.append(block);
            return;
        }
        for (String line : block.split("\n")) {
            Matcher parts = CHECKED.matcher(line);
            body.append(parts.matches() ? noted(parts.group(1), parts.group(2), parts.group(3), parts.group(4)) : line);
            body.append('\n');
        }
    }

    /** A call whose answer, or whose exception's name, goes into the list of answers. */
    private String noted(String name, String call, String answer, String thrown) {
        calls.add(call);
        due.add(thrown != null ? thrown : Script.due(answer));
        if (thrown != null) {
            return "try { " + call + "; answers.add(\"nothing\"); } catch (RuntimeException e) { "
                    + "answers.add(e.getClass().getSimpleName()); }";
        }
        return name == null ? "answers.add(\"\" + " + call + ");"
                : "int " + name + " = " + call + "; answers.add(\"\" + " + name + ");";
    }

    private List<String> answers() throws IOException, ReflectiveOperationException {
        Path program = Files.createDirectories(PLACE).resolve("Examples.java");
        Files.writeString(program, "public final class Examples {\n" + methods
                + "public static void run(java.util.List<String> answers) {\n" + body + "}\n}\n");
        int code = ToolProvider.getSystemJavaCompiler().run(null, null, null, "-cp", System.getProperty("java.class.path"),
                "-d", PLACE.toString(), program.toString());
        if (code != 0) {
            throw new IllegalStateException("README.md's examples do not compile");
        }
        List<String> answers = new ArrayList<>();
        try (URLClassLoader loader = new URLClassLoader(new URL[] {PLACE.toUri().toURL()})) {
            loader.loadClass("Examples").getMethod("run", List.class).invoke(null, answers);
        }
        return answers;
    }
}
