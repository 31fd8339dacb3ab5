import java.util.HashMap;
import java.util.HashSet;
import java.util.Map;
import java.util.Set;
import java.util.TreeMap;
import java.util.regex.Matcher;
import java.util.regex.Pattern;

/** Which method of the program calls which, read from its text, whose indents are 4 a level. */
final class CallGraph {
    /** The depth of methods that call one another. */
    private static final int ENDLESS = 1000;
    private static final Pattern CLASS = Pattern.compile("^ *(?:public|private static) final class (\\w+) \\{$");
    private static final Pattern METHOD = Pattern.compile("^( {4}| {8})(?:public |private )?(?:static )?[\\w\\[\\]]+ (\\w+)\\(");
    private static final Pattern CALL = Pattern.compile("(?:(\\w+)\\.)?\\b(\\w+)\\(");
    // Fields and variables have the names of their classes, but for these.
    private static final Map<String, String> OTHERS = Map.of("now", "Tree", "sure", "Tree", "other", "Tree", "draft", "Policy",
            "reader", "EventReader");

    private final Map<String, Integer> lines = new TreeMap<>();
    private final Map<String, Set<String>> calls = new HashMap<>();
    private final Map<String, String> bodies = new HashMap<>();
    private final Map<String, Integer> depths = new HashMap<>();

    static CallGraph of(String program) {
        CallGraph graph = new CallGraph();
        graph.split(program.split("\n"));
        graph.bodies.forEach(graph::connect);
        return graph;
    }

    private void split(String[] program) {
        String inside = "";
        String method = "";
        String indent = "";
        for (String line : program) {
            Matcher head = CLASS.matcher(line);
            Matcher start = METHOD.matcher(line);
            if (head.find()) {
                inside = head.group(1);
            } else if (method.isEmpty() && start.find() && !line.contains(" new ")) {
                method = inside + "." + start.group(2);
                indent = start.group(1);
                lines.put(method, 0);
                bodies.put(method, "");
            }
            if (!method.isEmpty()) {
                lines.merge(method, 1, Integer::sum);
                bodies.merge(method, line + "\n", String::concat);
            }
            method = line.equals(indent + "}") ? "" : method;
        }
    }

    private void connect(String method, String body) {
        Set<String> called = new HashSet<>();
        String inside = method.substring(0, method.indexOf('.'));
        Matcher matcher = CALL.matcher(body.substring(body.indexOf('{')));
        while (matcher.find()) {
            String at = matcher.group(1);
            String own = (at == null ? inside : classOf(at)) + "." + matcher.group(2);
            String outer = "GuardHouse." + matcher.group(2);
            called.add(at != null || bodies.containsKey(own) || !bodies.containsKey(outer) ? own : outer);
        }
        calls.put(method, called);
    }

    private static String classOf(String name) {
        return OTHERS.getOrDefault(name, name.substring(0, 1).toUpperCase() + name.substring(1));
    }

    Set<String> methods() {
        return lines.keySet();
    }

    int lines(String method) {
        return lines.get(method);
    }

    /** How many calls of the program's own methods stand open at once at most, the first one among them. */
    int depth(String method) {
        Integer known = depths.get(method);
        if (known != null) {
            return known;
        }
        // What is found again below itself has this depth, so that the search ends.
        depths.put(method, ENDLESS);
        int deepest = 0;
        for (String called : calls.get(method)) {
            deepest = Math.max(deepest, bodies.containsKey(called) ? depth(called) : 0);
        }
        depths.put(method, deepest + 1);
        return deepest + 1;
    }
}
