import java.util.Arrays;
import java.util.List;

/**
 * Calls of the face written as lines, so that a test reads like a run of calls: "0 open 1 8" is an act of process 0,
 * "node 1 2" a call without a process, "onPath 0 5 1" a call with a kind of its own.
 */
final class Script {
    private static final List<String> ON_PATH = List.of("look", "mkdir", "rmdir", "unlink", "run");
    private static final List<String> ON_PATHS = List.of("open", "link", "rename", "relabel");
    private static final List<String> ON_HANDLE = List.of("close", "dup", "read", "list", "empty");
    private static final List<String> ALONE = List.of("fork", "pipe", "leave");
    private static final List<String> ON_PROCESS = List.of("signal", "trace");
    /** The document promises nothing about an object behind so many calls. */
    private static final int MOST_CALLS = 512;

    private final GuardHouse house = new GuardHouse();
    private int calls;

    boolean hasTooManyCalls() {
        return calls > MOST_CALLS;
    }

    /** What a call answers: a number (0 for a call that tells nothing), or the exception's name. */
    String answer(String line) {
        calls++;
        try {
            return String.valueOf(call(line.trim().split(" +")));
        } catch (RuntimeException thrown) {
            return thrown.getClass().getSimpleName();
        }
    }

    /** A result's or an exception's short name as answer() tells it. */
    static String due(String name) {
        String due = name.trim();
        if (due.matches("[A-Z_]+")) {
            try {
                return String.valueOf(GuardHouse.class.getField(due).getInt(null));
            } catch (ReflectiveOperationException thrown) {
                throw new IllegalArgumentException("no constant " + due, thrown);
            }
        }
        return due.matches("[A-Z].*") ? due + "Exception" : due;
    }

    void put(String text) {
        for (int i = 0; i < text.length(); i += 4) {
            int signs = 0;
            for (int j = 0; j < 4 && i + j < text.length(); j++) {
                signs |= text.charAt(i + j) << 8 * j;
            }
            calls++;
            house.put(signs);
        }
    }

    /** All that the face tells of the tree, processes, handles and pipes; with questions and records if they matter, too. */
    String state(boolean whole) {
        StringBuilder state = new StringBuilder();
        for (int what = 0; what < 8; what++) {
            boolean asked = what < 4 || what == 7;
            state.append(whole || !asked ? "about " + what + " = " + answer("about " + what) + "\n" : "");
        }
        int[] most = {8, 32, 4};
        for (int what = 0; what < 3; what++) {
            for (int i = 0; i < most[what]; i++) {
                String context = answer("context " + i + " " + what);
                state.append(context.equals("-1") ? "" : "context " + i + " " + what + " = " + context + "\n");
                state.append(what == 1 && !context.equals("-1") ? node(i) : "");
            }
        }
        return state.append("text ").append(answer("put 0")).append("\nresults ").append(answer("result -1")).toString();
    }

    private String node(int n) {
        int contents = Integer.parseInt(answer("node " + n + " 1"));
        StringBuilder node = new StringBuilder();
        for (int what = 0; what < 3 + contents; what++) {
            String call = "node " + n + " " + what;
            node.append(call).append(" = ").append(answer(call)).append('\n');
        }
        return node.toString();
    }

    private int call(String[] words) {
        if (Character.isLetter(words[0].charAt(0))) {
            int[] n = new int[4];
            for (int i = 1; i < words.length; i++) {
                n[i - 1] = number(words[i]);
            }
            return lone(words[0], n);
        }
        int[] n = new int[3];
        for (int i = 0; i < words.length - 1; i++) {
            n[i] = number(words[i == 0 ? 0 : i + 1]);
        }
        return act(words[1], n[0], n[1], n[2]);
    }

    /** With 0x, too, and then all 32 bits. */
    private static int number(String word) {
        return Long.decode(word).intValue();
    }

    private int act(String word, int p, int a, int b) {
        if (ON_PATH.contains(word)) {
            return house.onPath(p, ON_PATH.indexOf(word), a);
        }
        if (ON_PATHS.contains(word)) {
            return house.onPaths(p, ON_PATHS.indexOf(word), a, b);
        }
        if (ON_HANDLE.contains(word)) {
            return house.onHandle(p, ON_HANDLE.indexOf(word), a);
        }
        if (ALONE.contains(word)) {
            return house.alone(p, ALONE.indexOf(word));
        }
        if (ON_PROCESS.contains(word)) {
            return house.onProcess(p, ON_PROCESS.indexOf(word), a);
        }
        switch (word) {
            case "write":
                return house.write(p, a, b);
            case "seek":
                return house.seek(p, a, b);
            case "switch":
                return house.switchTo(p, a);
            default:
                throw new Error("a test has no act " + word);
        }
    }

    private int lone(String word, int[] n) {
        switch (word) {
            case "put":
                return house.put(n[0]);
            case "load":
                return house.load();
            case "policy":
                return house.policy(n[0]);
            case "vector":
                return house.vector(n[0], n[1], n[2]);
            case "move":
                return house.move(n[0], n[1], n[2]);
            case "identifier":
                return house.identifier(n[0]);
            case "context":
                return house.context(n[0], n[1]);
            case "node":
                return house.node(n[0], n[1]);
            case "record":
                return house.record(n[0], n[1]);
            case "last":
                calls++;
                return house.record(Math.min(house.about(0), 20) - 1, n[0]);
            case "about":
                return house.about(n[0]);
            case "events":
                return house.events();
            case "result":
                return house.result(n[0]);
            case "onPath":
                return house.onPath(n[0], n[1], n[2]);
            case "onPaths":
                return house.onPaths(n[0], n[1], n[2], n[3]);
            case "onHandle":
                return house.onHandle(n[0], n[1], n[2]);
            case "alone":
                return house.alone(n[0], n[1]);
            case "onProcess":
                return house.onProcess(n[0], n[1], n[2]);
            default:
                return silent(word, n);
        }
    }

    private int silent(String word, int[] n) {
        switch (word) {
            case "end":
                house.end(n[0]);
                return 0;
            case "label":
                house.label(n[0], n[1]);
                return 0;
            case "sync":
                house.sync();
                return 0;
            case "crash":
                house.crash(n[0]);
                return 0;
            default:
                throw new Error("a test has no call " + word + Arrays.toString(n));
        }
    }
}
