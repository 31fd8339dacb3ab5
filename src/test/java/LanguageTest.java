import java.io.IOException;
import java.lang.reflect.Field;
import java.lang.reflect.Method;
import java.lang.reflect.Modifier;
import java.nio.file.Files;
import java.nio.file.Path;
import java.util.ArrayList;
import java.util.HashSet;
import java.util.List;
import java.util.Set;
import java.util.regex.Matcher;
import java.util.regex.Pattern;

/** Those rules of LANGUAGE.md that can be seen in the program's text and in its compiled classes. */
public final class LanguageTest {
    private static final Path PROGRAM = Path.of("src", "main", "java", "GuardHouse.java");
    private static final Set<String> IMPORTS = Set.of("java.util.Arrays", "java.util.NoSuchElementException");
    private static final Set<String> LIBRARY = Set.of("Arrays.fill", "System.arraycopy", "Math.min", "Math.max",
            "Math.floorMod");
    private static final String RULED_OUT = "->|::|\\b(?:try|catch|finally|synchronized|assert|package|var|Object|Thread|Random|"
            + "hashCode|toString|equals|protected|instanceof)\\b|\\bstatic \\{|\\bwhile \\(true\\)|\\bfor \\(;";
    private static final String THROWN = "throw new (?:IllegalState|IllegalArgument|IndexOutOfBounds|UnsupportedOperation"
            + "|NoSuchElement)Exception\\(\"\"\\);";
    private static final Set<Class<?>> CONSTANTS = Set.of(int.class, long.class, boolean.class, char.class, String.class,
            int[].class, long[].class, char[].class, byte[].class);
    private static final Set<Class<?>> NUMBERS = Set.of(int.class, long.class, boolean.class, int[].class, long[].class,
            byte[].class);
    private static final Due DUE = new Due();

    public static void main(String[] args) throws IOException {
        List<Class<?>> classes = new ArrayList<>(List.of(GuardHouse.class.getDeclaredClasses()));
        for (Class<?> inside : classes) {
            DUE.is("rule 1: " + inside + " is static and not seen", Modifier.STATIC,
                    inside.getModifiers() & (Modifier.STATIC | Modifier.PUBLIC | Modifier.PROTECTED));
            DUE.is("rule 11: classes in " + inside, 0, inside.getDeclaredClasses().length);
        }
        classes.add(GuardHouse.class);
        DUE.is("rule 11: at most twelve classes", 1, classes.size() <= 12 ? 1 : 0);
        for (Class<?> each : classes) {
            fields(each, classes);
            methods(each);
        }
        // Comments and what stands between quotes may have any words.
        String text = Files.readString(PROGRAM).replaceAll("\"[^\"\n]*\"", "\"\"").replaceAll("'(?:[^'\\\\]|\\\\.)'", "' '")
                .replaceAll("//[^\n]*", "").replaceAll("(?s)/\\*.*?\\*/", "");
        words(text);
        deepest(CallGraph.of(text));
        DUE.finish();
    }

    private static void fields(Class<?> of, List<Class<?>> own) {
        int count = 0;
        for (Field field : of.getDeclaredFields()) {
            boolean fixed = Modifier.isStatic(field.getModifiers());
            count += fixed ? 0 : 1;
            if (fixed) {
                DUE.is("rule 5: " + field, 1, Modifier.isFinal(field.getModifiers()) && CONSTANTS.contains(field.getType()) ? 1 : 0);
            } else {
                DUE.is("rule 3: " + field, 1, NUMBERS.contains(field.getType()) || own.contains(field.getType()) ? 1 : 0);
            }
        }
        DUE.is("rule 11: at most some twenty fields of " + of, 1, count <= 20 ? 1 : 0);
    }

    private static void methods(Class<?> of) {
        Set<String> face = new HashSet<>();
        for (Method method : GuardHouse.class.getMethods()) {
            face.add(method.getName());
        }
        for (Method method : of.getDeclaredMethods()) {
            DUE.is("rule 11: at most seven parameters of " + method, 1, method.getParameterCount() <= 7 ? 1 : 0);
            boolean open = Modifier.isPublic(method.getModifiers());
            DUE.is("rule 1: " + method, 1, open ? of == GuardHouse.class ? 1 : 0 : face.contains(method.getName()) ? 0 : 1);
        }
    }

    private static void words(String text) {
        DUE.is("rules 2, 6, 9: " + found(RULED_OUT, text), 0, found(RULED_OUT, text).size());
        for (String line : found("import [\\w.]+", text)) {
            DUE.is("rule 4: " + line, 1, IMPORTS.contains(line.substring(7)) ? 1 : 0);
        }
        for (String call : found("\\b(?:Math|Arrays|System|Integer|Long|String)\\.\\w+", text)) {
            DUE.is("rule 4: " + call, 1, LIBRARY.contains(call) ? 1 : 0);
        }
        DUE.is("rule 6: each throw", found("\\bthrow\\b", text).size(), found(THROWN, text).size());
        DUE.is("rule 12: what is made but exceptions, rows and parts of an object", 0,
                found("(?<!throw |= |\\()new ", text).size());
    }

    private static List<String> found(String pattern, String text) {
        List<String> all = new ArrayList<>();
        Matcher matcher = Pattern.compile(pattern).matcher(text);
        while (matcher.find()) {
            all.add(matcher.group());
        }
        return all;
    }

    private static void deepest(CallGraph calls) {
        for (String method : calls.methods()) {
            DUE.is("rule 11: lines of " + method, 1, calls.lines(method) <= 60 ? 1 : 0);
            DUE.is("rule 11: calls open at once from " + method, 1, calls.depth(method) <= 8 ? 1 : 0);
        }
        DUE.is("rule 11: methods seen", 1, calls.methods().size() > 150 ? 1 : 0);
        DUE.is("rule 11: calls open at once from events()", 8, calls.depth("GuardHouse.events"));
    }
}
