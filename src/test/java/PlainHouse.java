import java.util.ArrayDeque;
import java.util.ArrayList;
import java.util.Collections;
import java.util.Deque;
import java.util.IdentityHashMap;
import java.util.List;
import java.util.NoSuchElementException;
import java.util.Set;
import java.util.TreeMap;
import java.util.function.Consumer;
import java.util.function.IntSupplier;
import java.util.regex.Matcher;
import java.util.regex.Pattern;

/** The document's house built in the plainest way, without care for room, to compare answers with. */
final class PlainHouse {
    /** A result below 0 on the way of an act. */
    private static final class Stop extends RuntimeException {
        private static final long serialVersionUID = 1L;
        final int result;

        Stop(int result) {
            this.result = result;
        }
    }

    private static final class Node {
        final boolean directory;
        int context;
        List<Integer> bytes = new ArrayList<>();
        List<int[]> entries = new ArrayList<>();

        Node(boolean directory, int context) {
            this.directory = directory;
            this.context = context;
        }

        Node copy() {
            Node copy = new Node(directory, context);
            copy.bytes.addAll(bytes);
            entries.forEach(e -> copy.entries.add(e.clone()));
            return copy;
        }

        int size() {
            return directory ? entries.size() : bytes.size();
        }

        int find(int name) {
            for (int[] entry : entries) {
                if (entry[0] == name) {
                    return entry[1];
                }
            }
            return -1;
        }
    }

    private static final class Pipe {
        int context;
        Deque<Integer> bytes = new ArrayDeque<>();
    }

    private static final class Opening {
        int node = -1;
        Pipe pipe;
        int mode;
        int place;
        int context;
    }

    private static final class Process {
        int context;
        TreeMap<Integer, Opening> handles = new TreeMap<>();
    }

    private String text = "";
    private PlainRules rules;
    private final List<Integer> identified = new ArrayList<>();
    private final List<List<Integer>> cacheKeys = new ArrayList<>();
    private final List<Set<Integer>> cacheVectors = new ArrayList<>();
    private final List<int[]> records = new ArrayList<>();
    private int questions;
    private int hits;
    private TreeMap<Integer, Node> nodes = new TreeMap<>();
    private TreeMap<Integer, Node> sure = new TreeMap<>();
    private final List<Consumer<TreeMap<Integer, Node>>> deeds = new ArrayList<>();
    private final TreeMap<Integer, Process> processes = new TreeMap<>();
    private final TreeMap<Integer, Pipe> pipes = new TreeMap<>();
    private List<Integer> results = new ArrayList<>();

    int put(int signs) {
        StringBuilder more = new StringBuilder();
        for (int i = 0; i < 4; i++) {
            int sign = signs >> 8 * i & 255;
            if (sign != 0 && sign != 10 && (sign < 32 || sign > 126)) {
                throw new IllegalArgumentException();
            }
            if (sign != 0) {
                more.append((char) sign);
            }
        }
        if (text.length() + more.length() > 1200) {
            throw new UnsupportedOperationException();
        }
        text += more;
        return text.length();
    }

    int end(int n) {
        require(n >= 0 && n <= text.length());
        text = text.substring(0, n);
        return 0;
    }

    int load() {
        PlainRules loaded;
        try {
            loaded = new PlainRules(text);
        } catch (PlainRules.Fault fault) {
            return fault.place;
        }
        List<Integer> contexts = new ArrayList<>(List.of(0));
        processes.values().forEach(p -> contexts.add(p.context));
        nodes.values().forEach(n -> contexts.add(n.context));
        pipes.values().forEach(p -> contexts.add(p.context));
        openings().forEach(o -> contexts.add(o.context));
        for (int context : contexts) {
            if (!loaded.isValid(context)) {
                throw new IllegalStateException();
            }
        }
        if (rules == null) {
            processes.put(0, new Process());
            nodes.put(0, new Node(true, 0));
        }
        rules = loaded;
        cacheKeys.clear();
        cacheVectors.clear();
        sync();
        return -1;
    }

    private static void require(boolean right) {
        if (!right) {
            throw new IllegalArgumentException();
        }
    }

    private void requirePolicy() {
        if (rules == null) {
            throw new IllegalStateException();
        }
    }

    int policy(int what) {
        requirePolicy();
        require(what >= 0 && what <= 6);
        return List.of(rules.types, rules.attributes, rules.roles, rules.users, rules.rules, rules.moves, rules.limits)
                .get(what).size();
    }

    private static int bits(Set<Integer> set) {
        int bits = 0;
        for (int bit : set) {
            bits |= 1 << bit;
        }
        return bits;
    }

    int vector(int source, int target, int kind) {
        requirePolicy();
        require(rules.isValid(source) && rules.isValid(target) && kind >= 0 && kind < 5);
        return bits(rules.vector(source, target, kind));
    }

    int move(int source, int target, int kind) {
        requirePolicy();
        int types = rules.types.size();
        require(source >= 0 && source < types && target >= 0 && target < types && kind >= 0 && kind < 5);
        return rules.move(source, target, kind);
    }

    int identifier(int context) {
        require(context >= 0);
        int at = identified.indexOf(context);
        return at < 0 ? -1 : at + 1;
    }

    private void check(int source, int target, String kindName, String... names) {
        int kind = PlainRules.CLASSES.indexOf(kindName);
        questions++;
        for (int context : new int[] {source, target}) {
            if (!identified.contains(context)) {
                identified.add(context);
            }
        }
        List<Integer> key = List.of(source, target, kind);
        int at = cacheKeys.indexOf(key);
        if (at >= 0) {
            hits++;
        } else {
            if (cacheKeys.size() == 6) {
                cacheKeys.remove(0);
                cacheVectors.remove(0);
            }
            cacheKeys.add(key);
            cacheVectors.add(rules.vector(source, target, kind));
            at = cacheKeys.size() - 1;
        }
        Set<Integer> vector = cacheVectors.get(at);
        boolean granted = true;
        boolean loud = false;
        boolean audited = false;
        int asked = 0;
        for (String name : names) {
            int bit = PlainRules.PERMISSIONS.get(kind).indexOf(name);
            asked |= 1 << bit;
            audited |= rules.ruled("audit", source, target, kind).contains(bit);
            if (!vector.contains(bit)) {
                granted = false;
                loud |= !rules.ruled("quiet", source, target, kind).contains(bit);
            }
        }
        if (granted ? audited : loud) {
            records.add(new int[] {granted ? 1 : 0, source, target, kind, asked});
        }
        if (!granted) {
            throw new Stop(GuardHouse.DENIED);
        }
    }

    private static void stopIf(boolean so, int result) {
        if (so) {
            throw new Stop(result);
        }
    }

    private Set<Opening> openings() {
        Set<Opening> found = Collections.newSetFromMap(new IdentityHashMap<>());
        processes.values().forEach(p -> found.addAll(p.handles.values()));
        return found;
    }

    private int links(TreeMap<Integer, Node> tree, int node) {
        int links = 0;
        for (Node each : tree.values()) {
            for (int[] entry : each.entries) {
                links += entry[1] == node ? 1 : 0;
            }
        }
        return links;
    }

    /** Nodes and pipes that nothing needs any more go. */
    private void sweep() {
        Set<Opening> open = openings();
        nodes.keySet().removeIf(n -> n != 0 && links(nodes, n) == 0 && open.stream().noneMatch(o -> o.node == n));
        pipes.values().removeIf(pipe -> open.stream().noneMatch(o -> o.pipe == pipe));
    }

    private static TreeMap<Integer, Node> copy(TreeMap<Integer, Node> tree) {
        TreeMap<Integer, Node> copy = new TreeMap<>();
        tree.forEach((number, node) -> copy.put(number, node.copy()));
        return copy;
    }

    private void deed(Consumer<TreeMap<Integer, Node>> deed) {
        deed.accept(nodes);
        deeds.add(deed);
        if (deeds.size() == 200) {
            sync();
        }
    }

    int sync() {
        if (rules != null) {
            sure = copy(nodes);
            deeds.clear();
        }
        return 0;
    }

    int crash(int n) {
        requirePolicy();
        require(n >= 0 && n <= deeds.size());
        for (int i = 0; i < n; i++) {
            deeds.get(i).accept(sure);
        }
        nodes = copy(sure);
        processes.clear();
        pipes.clear();
        sweep();
        sync();
        processes.put(0, new Process());
        cacheKeys.clear();
        cacheVectors.clear();
        return 0;
    }

    int label(int n, int context) {
        requirePolicy();
        require(n >= 0 && n < 32 && rules.isValid(context));
        if (!nodes.containsKey(n)) {
            throw new NoSuchElementException();
        }
        deed(tree -> tree.get(n).context = context);
        return 0;
    }

    /** The paths of up to four names that lead to nodes, to choose from. */
    List<Integer> paths() {
        List<Integer> found = new ArrayList<>();
        addPaths(found, 0, 0, 1);
        return found;
    }

    private void addPaths(List<Integer> found, int node, int path, int factor) {
        for (int[] entry : nodes.containsKey(node) ? nodes.get(node).entries : List.<int[]>of()) {
            found.add(path + factor * entry[0]);
            if (factor < 1000000) {
                addPaths(found, entry[1], path + factor * entry[0], 100 * factor);
            }
        }
    }

    /** The handles of a process, to choose from. */
    List<Integer> handles(int p) {
        return processes.containsKey(p) ? new ArrayList<>(processes.get(p).handles.keySet()) : List.of();
    }

    private static int least(Set<Integer> taken) {
        int number = 0;
        while (taken.contains(number)) {
            number++;
        }
        return number;
    }

    private static List<Integer> names(int path) {
        require(path >= 0 && path <= 99999999);
        List<Integer> names = new ArrayList<>();
        for (int rest = path; rest > 0; rest /= 100) {
            require(rest % 100 != 0);
            names.add(rest % 100);
        }
        return names;
    }

    /** An act whose numbers are right: its result, behind which nothing unneeded is left. */
    private int done(int p, IntSupplier act) {
        if (!processes.containsKey(p)) {
            throw new NoSuchElementException();
        }
        try {
            return act.getAsInt();
        } catch (Stop stop) {
            return stop.result;
        } finally {
            sweep();
        }
    }

    private int own(int p) {
        return processes.get(p).context;
    }

    private int step(int p, int at, int name) {
        enter(p, at);
        int next = nodes.get(at).find(name);
        stopIf(next < 0, GuardHouse.NOT_THERE);
        return next;
    }

    private void enter(int p, int at) {
        stopIf(!nodes.get(at).directory, GuardHouse.NO_DIRECTORY);
        check(own(p), nodes.get(at).context, "dir", "search");
    }

    private int walk(int p, List<Integer> names) {
        int at = 0;
        for (int name : names) {
            at = step(p, at, name);
        }
        return at;
    }

    private int place(int p, List<Integer> names) {
        stopIf(names.isEmpty(), GuardHouse.EXISTS);
        int at = walk(p, names.subList(0, names.size() - 1));
        enter(p, at);
        return at;
    }

    private static int last(List<Integer> names) {
        return names.get(names.size() - 1);
    }

    private String kindOf(int node) {
        return nodes.get(node).directory ? "dir" : "file";
    }

    private void checkNode(int p, int node, String... permissions) {
        check(own(p), nodes.get(node).context, kindOf(node), permissions);
    }

    private int made(int p, int type, String kind, int otherwise) {
        int own = own(p);
        int moved = rules.move(own % 100, type, PlainRules.CLASSES.indexOf(kind));
        int made = own / 100 * 100 + (moved < 0 ? otherwise : moved);
        stopIf(!rules.isValid(made), GuardHouse.NO_CONTEXT);
        return made;
    }

    int onPath(int p, int kind, int path) {
        requirePolicy();
        require(p >= 0 && p < 8 && kind >= 0 && kind < 5);
        List<Integer> names = names(path);
        switch (kind) {
            case 0:
                return done(p, () -> look(p, names));
            case 1:
                return done(p, () -> makeDirectory(p, names));
            case 2:
                return done(p, () -> remove(p, names, true));
            case 3:
                return done(p, () -> remove(p, names, false));
            default:
                return done(p, () -> run(p, names));
        }
    }

    private int look(int p, List<Integer> names) {
        int at = walk(p, names);
        checkNode(p, at, "look");
        return 2 * nodes.get(at).size() + (nodes.get(at).directory ? 1 : 0) + 100 * links(nodes, at);
    }

    private int newContext(int p, int directory, String kind) {
        checkNode(p, directory, "add");
        int type = nodes.get(directory).context % 100;
        int made = made(p, type, kind, type);
        check(own(p), made, kind, "create");
        stopIf(nodes.size() == 32 || nodes.get(directory).size() == 10, GuardHouse.NO_ROOM);
        return made;
    }

    private int makeDirectory(int p, List<Integer> names) {
        int directory = place(p, names);
        stopIf(nodes.get(directory).find(last(names)) >= 0, GuardHouse.EXISTS);
        int context = newContext(p, directory, "dir");
        return make(directory, last(names), true, context);
    }

    private int make(int directory, int name, boolean isDirectory, int context) {
        int node = least(nodes.keySet());
        deed(tree -> {
            tree.put(node, new Node(isDirectory, context));
            tree.get(directory).entries.add(new int[] {name, node});
        });
        return node;
    }

    private int remove(int p, List<Integer> names, boolean wantsDirectory) {
        int directory = place(p, names);
        int name = last(names);
        int node = nodes.get(directory).find(name);
        stopIf(node < 0, GuardHouse.NOT_THERE);
        stopIf(nodes.get(node).directory != wantsDirectory,
                wantsDirectory ? GuardHouse.NO_DIRECTORY : GuardHouse.IS_DIRECTORY);
        checkNode(p, directory, "remove");
        checkNode(p, node, "unlink");
        stopIf(wantsDirectory && nodes.get(node).size() > 0, GuardHouse.NOT_EMPTY);
        deed(tree -> tree.get(directory).entries.removeIf(e -> e[0] == name));
        return 0;
    }

    private int run(int p, List<Integer> names) {
        int node = walk(p, names);
        stopIf(nodes.get(node).directory, GuardHouse.IS_DIRECTORY);
        checkNode(p, node, "read");
        int made = made(p, nodes.get(node).context % 100, "process", own(p) % 100);
        if (made != own(p)) {
            check(own(p), made, "process", "become");
            check(made, nodes.get(node).context, "file", "entry");
        }
        processes.get(p).context = made;
        return made % 100;
    }

    int onPaths(int p, int kind, int path, int other) {
        requirePolicy();
        require(p >= 0 && p < 8 && kind >= 0 && kind < 4);
        List<Integer> names = names(path);
        require(kind != 0 || (other >= 0 && other < 32));
        require(kind != 3 || other >= 0);
        List<Integer> to = kind == 1 || kind == 2 ? names(other) : List.of();
        switch (kind) {
            case 0:
                return done(p, () -> open(p, names, other));
            case 1:
                return done(p, () -> link(p, names, to));
            case 2:
                return done(p, () -> rename(p, names, to));
            default:
                return done(p, () -> relabel(p, names, other));
        }
    }

    private int open(int p, List<Integer> names, int mode) {
        int directory = names.isEmpty() ? -1 : place(p, names);
        int node = names.isEmpty() ? 0 : nodes.get(directory).find(last(names));
        int context;
        if (node < 0) {
            stopIf((mode & 8) == 0, GuardHouse.NOT_THERE);
            context = newContext(p, directory, "file");
        } else {
            context = nodes.get(node).context;
        }
        if (node >= 0 && nodes.get(node).directory) {
            stopIf(mode != 1, GuardHouse.IS_DIRECTORY);
            checkNode(p, node, "read");
        } else {
            List<String> needed = new ArrayList<>();
            if ((mode & 1) != 0) {
                needed.add("read");
            }
            if ((mode & 2) != 0 || (mode & 16) != 0) {
                needed.add("write");
            }
            if ((mode & 4) != 0) {
                needed.add("append");
            }
            if (!needed.isEmpty()) {
                check(own(p), context, "file", needed.toArray(new String[0]));
            }
        }
        stopIf(processes.get(p).handles.size() == 6 || openings().size() == 16, GuardHouse.NO_ROOM);
        Opening opening = new Opening();
        opening.mode = mode & 7;
        opening.context = own(p);
        opening.node = node;
        if (node < 0) {
            opening.node = make(directory, last(names), false, context);
        } else if ((mode & 16) != 0 && !nodes.get(node).bytes.isEmpty()) {
            deed(tree -> tree.get(node).bytes.clear());
        }
        return hold(p, opening);
    }

    private int hold(int p, Opening opening) {
        int handle = least(processes.get(p).handles.keySet());
        processes.get(p).handles.put(handle, opening);
        return handle;
    }

    private int link(int p, List<Integer> names, List<Integer> to) {
        int node = walk(p, names);
        stopIf(nodes.get(node).directory, GuardHouse.IS_DIRECTORY);
        int directory = place(p, to);
        stopIf(nodes.get(directory).find(last(to)) >= 0, GuardHouse.EXISTS);
        checkNode(p, directory, "add");
        checkNode(p, node, "link");
        stopIf(nodes.get(directory).size() == 10, GuardHouse.NO_ROOM);
        deed(tree -> tree.get(directory).entries.add(new int[] {last(to), node}));
        return 0;
    }

    private int rename(int p, List<Integer> names, List<Integer> to) {
        int from = place(p, names);
        int node = nodes.get(from).find(last(names));
        stopIf(node < 0, GuardHouse.NOT_THERE);
        int into = place(p, to);
        stopIf(nodes.get(into).find(last(to)) >= 0, GuardHouse.EXISTS);
        checkNode(p, from, "remove");
        checkNode(p, into, "add");
        checkNode(p, node, "rename");
        stopIf(into != from && nodes.get(into).size() == 10, GuardHouse.NO_ROOM);
        stopIf(nodes.get(node).directory && isBelow(into, node), GuardHouse.INSIDE);
        deed(tree -> {
            tree.get(from).entries.removeIf(e -> e[0] == last(names));
            tree.get(into).entries.add(new int[] {last(to), node});
        });
        return 0;
    }

    private boolean isBelow(int node, int above) {
        if (node == above) {
            return true;
        }
        for (int[] entry : nodes.get(above).entries) {
            if (nodes.get(entry[1]).directory && isBelow(node, entry[1])) {
                return true;
            }
        }
        return false;
    }

    private int relabel(int p, List<Integer> names, int context) {
        int node = walk(p, names);
        stopIf(!rules.isValid(context), GuardHouse.NO_CONTEXT);
        checkNode(p, node, "relabel");
        check(own(p), context, kindOf(node), "relabel");
        deed(tree -> tree.get(node).context = context);
        return 0;
    }

    private void requireHandle(int p, int h) {
        requirePolicy();
        require(p >= 0 && p < 8 && h >= 0 && h < 6);
    }

    private Opening used(int p, int h) {
        Opening opening = processes.get(p).handles.get(h);
        stopIf(opening == null, GuardHouse.NO_HANDLE);
        if (opening.context != own(p)) {
            check(own(p), opening.context, "handle", "use");
        }
        return opening;
    }

    int onHandle(int p, int kind, int h) {
        requireHandle(p, h);
        require(kind >= 0 && kind < 5);
        switch (kind) {
            case 0:
                return done(p, () -> {
                    stopIf(processes.get(p).handles.remove(h) == null, GuardHouse.NO_HANDLE);
                    return 0;
                });
            case 1:
                return done(p, () -> {
                    Opening opening = used(p, h);
                    stopIf(processes.get(p).handles.size() == 6, GuardHouse.NO_ROOM);
                    return hold(p, opening);
                });
            case 2:
                return done(p, () -> read(p, used(p, h)));
            case 3:
                return done(p, () -> list(p, used(p, h)));
            default:
                return done(p, () -> empty(p, used(p, h)));
        }
    }

    private int read(int p, Opening opening) {
        stopIf((opening.mode & 1) == 0, GuardHouse.WRONG_MODE);
        if (opening.pipe != null) {
            check(own(p), opening.pipe.context, "pipe", "read");
            if (!opening.pipe.bytes.isEmpty()) {
                return opening.pipe.bytes.removeFirst();
            }
            stopIf(openings().stream().anyMatch(o -> o.pipe == opening.pipe && o.mode == 2), GuardHouse.WAITS);
            return 256;
        }
        Node node = nodes.get(opening.node);
        stopIf(node.directory, GuardHouse.IS_DIRECTORY);
        checkNode(p, opening.node, "read");
        return opening.place < node.size() ? node.bytes.get(opening.place++) : 256;
    }

    private int list(int p, Opening opening) {
        stopIf(opening.pipe != null || !nodes.get(opening.node).directory, GuardHouse.NO_DIRECTORY);
        checkNode(p, opening.node, "read");
        Node node = nodes.get(opening.node);
        return opening.place < node.size() ? node.entries.get(opening.place++)[0] : 256;
    }

    private int empty(int p, Opening opening) {
        stopIf((opening.mode & 2) == 0 || opening.pipe != null, GuardHouse.WRONG_MODE);
        checkNode(p, opening.node, "write");
        if (nodes.get(opening.node).size() > 0) {
            int node = opening.node;
            deed(tree -> tree.get(node).bytes.clear());
        }
        return 0;
    }

    int write(int p, int h, int b) {
        requireHandle(p, h);
        return done(p, () -> write(p, used(p, h), b & 255));
    }

    private int write(int p, Opening opening, int b) {
        stopIf((opening.mode & 6) == 0, GuardHouse.WRONG_MODE);
        if (opening.pipe != null) {
            check(own(p), opening.pipe.context, "pipe", "write");
            stopIf(openings().stream().noneMatch(o -> o.pipe == opening.pipe && o.mode == 1), GuardHouse.BROKEN);
            stopIf(opening.pipe.bytes.size() == 8, GuardHouse.WAITS);
            opening.pipe.bytes.addLast(b);
            return 0;
        }
        boolean append = (opening.mode & 4) != 0;
        checkNode(p, opening.node, append ? "append" : "write");
        int number = opening.node;
        int at = append ? nodes.get(number).size() : opening.place;
        stopIf(at >= 24, GuardHouse.NO_ROOM);
        deed(tree -> {
            List<Integer> bytes = tree.get(number).bytes;
            while (bytes.size() <= at) {
                bytes.add(0);
            }
            bytes.set(at, b);
        });
        opening.place = append ? opening.place : at + 1;
        return 0;
    }

    int seek(int p, int h, int at) {
        requireHandle(p, h);
        require(at >= 0 && at <= 24);
        return done(p, () -> {
            Opening opening = used(p, h);
            stopIf(opening.pipe != null, GuardHouse.WRONG_MODE);
            opening.place = at;
            return at;
        });
    }

    int alone(int p, int kind) {
        requirePolicy();
        require(p >= 0 && p < 8 && kind >= 0 && kind < 3);
        if (kind == 2) {
            return done(p, () -> {
                processes.remove(p);
                return 0;
            });
        }
        return done(p, () -> kind == 0 ? fork(p) : pipe(p));
    }

    private int fork(int p) {
        check(own(p), own(p), "process", "fork");
        stopIf(processes.size() == 8, GuardHouse.NO_ROOM);
        Process child = new Process();
        child.context = own(p);
        child.handles.putAll(processes.get(p).handles);
        int number = least(processes.keySet());
        processes.put(number, child);
        return number;
    }

    private int pipe(int p) {
        check(own(p), own(p), "pipe", "create");
        stopIf(pipes.size() == 4 || openings().size() > 14 || processes.get(p).handles.size() > 4, GuardHouse.NO_ROOM);
        Pipe pipe = new Pipe();
        pipe.context = own(p);
        pipes.put(least(pipes.keySet()), pipe);
        int[] handles = new int[2];
        for (int i = 0; i < 2; i++) {
            Opening opening = new Opening();
            opening.pipe = pipe;
            opening.mode = i + 1;
            opening.context = own(p);
            handles[i] = hold(p, opening);
        }
        return 10 * handles[1] + handles[0];
    }

    int onProcess(int p, int kind, int q) {
        requirePolicy();
        require(p >= 0 && p < 8 && q >= 0 && q < 8 && kind >= 0 && kind < 2);
        if (!processes.containsKey(q)) {
            throw new NoSuchElementException();
        }
        return done(p, () -> {
            check(own(p), own(q), "process", kind == 0 ? "signal" : "trace");
            if (kind == 0) {
                processes.remove(q);
            }
            return 0;
        });
    }

    int switchTo(int p, int context) {
        requirePolicy();
        require(p >= 0 && p < 8 && context >= 0);
        return done(p, () -> {
            stopIf(!rules.isValid(context), GuardHouse.NO_CONTEXT);
            check(own(p), context, "process", "switch");
            processes.get(p).context = context;
            return 0;
        });
    }

    int context(int i, int what) {
        require(what >= 0 && what < 3 && i >= 0 && i < (what == 0 ? 8 : what == 1 ? 32 : 4));
        if (what == 0) {
            return processes.containsKey(i) ? own(i) : -1;
        }
        if (what == 1) {
            return nodes.containsKey(i) ? nodes.get(i).context : -1;
        }
        return pipes.containsKey(i) ? pipes.get(i).context : -1;
    }

    int node(int n, int what) {
        require(n >= 0 && n < 32 && what >= 0);
        Node node = nodes.get(n);
        if (node == null || what - 3 >= node.size()) {
            throw new NoSuchElementException();
        }
        switch (what) {
            case 0:
                return node.directory ? 1 : 0;
            case 1:
                return node.size();
            case 2:
                return links(nodes, n);
            default:
                int k = what - 3;
                return node.directory ? node.entries.get(k)[0] + 100 * node.entries.get(k)[1] : node.bytes.get(k);
        }
    }

    int record(int i, int what) {
        List<int[]> kept = records.subList(Math.max(0, records.size() - 20), records.size());
        if (i < 0 || i >= kept.size()) {
            throw new IndexOutOfBoundsException();
        }
        require(what >= 0 && what < 5);
        return kept.get(i)[what];
    }

    int about(int what) {
        require(what >= 0 && what < 8);
        return new int[] {records.size(), questions, hits, cacheKeys.size(), deeds.size(), openings().size(),
            pipes.size(), identified.size()}[what];
    }

    private static final String ONE = "look|mkdir|rmdir|unlink|run|close|dup|read|list|empty|switch|signal|trace";
    private static final String TWO = "open|link|rename|relabel|write|seek";
    private static final Pattern TOKEN = Pattern.compile("[a-z]+|[0-9]+|;");
    private static final Pattern BLANKS = Pattern.compile("(?:[ \n]|#[^\n]*)*");

    int events() {
        String all = text;
        text = "";
        List<List<String>> events = new ArrayList<>();
        List<String> event = new ArrayList<>();
        int place = 0;
        while (true) {
            Matcher blanks = BLANKS.matcher(all).region(place, all.length());
            blanks.lookingAt();
            place = blanks.end();
            if (place == all.length()) {
                break;
            }
            Matcher found = TOKEN.matcher(all).region(place, all.length());
            if (!found.lookingAt() || found.group().matches("[0-9]{9,}") || !fits(event, found.group())) {
                return place;
            }
            event.add(found.group());
            if (found.group().equals(";")) {
                events.add(event);
                event = new ArrayList<>();
            }
            place = found.end();
        }
        if (!event.isEmpty()) {
            return all.length();
        }
        results = new ArrayList<>();
        for (List<String> each : events) {
            results.add(resultOf(each));
        }
        return -1;
    }

    private static boolean fits(List<String> event, String token) {
        StringBuilder shape = new StringBuilder();
        for (String each : event) {
            shape.append(each.matches("[0-9]+") ? "9" : each).append(' ');
        }
        shape.append(token.matches("[0-9]+") ? "9" : token).append(' ');
        return List.of("9 (" + ONE + ") 9 ; ", "9 (" + TWO + ") 9 9 ; ", "9 (fork|pipe|leave) ; ", "sync ; ", "crash 9 ; ",
                "label 9 9 ; ").stream().anyMatch(form -> {
                    Matcher matcher = Pattern.compile(form).matcher(shape);
                    return matcher.matches() || matcher.hitEnd();
                });
    }

    private int resultOf(List<String> event) {
        try {
            boolean alone = !Character.isDigit(event.get(0).charAt(0));
            String word = event.get(alone ? 0 : 1);
            int p = alone ? -1 : Integer.parseInt(event.get(0));
            int first = alone ? 1 : 2;
            int a = event.size() > first + 1 ? Integer.parseInt(event.get(first)) : 0;
            int b = event.size() > first + 2 ? Integer.parseInt(event.get(first + 1)) : 0;
            return call(word, p, a, b);
        } catch (IllegalArgumentException thrown) {
            return -100;
        } catch (NoSuchElementException thrown) {
            return -101;
        } catch (IllegalStateException thrown) {
            return -102;
        }
    }

    private int call(String word, int p, int a, int b) {
        int path = List.of("look", "mkdir", "rmdir", "unlink", "run").indexOf(word);
        int paths = List.of("open", "link", "rename", "relabel").indexOf(word);
        int handle = List.of("close", "dup", "read", "list", "empty").indexOf(word);
        int alone = List.of("fork", "pipe", "leave").indexOf(word);
        int process = List.of("signal", "trace").indexOf(word);
        if (path >= 0) {
            return onPath(p, path, a);
        }
        if (paths >= 0) {
            return onPaths(p, paths, a, b);
        }
        if (handle >= 0) {
            return onHandle(p, handle, a);
        }
        if (alone >= 0) {
            return alone(p, alone);
        }
        if (process >= 0) {
            return onProcess(p, process, a);
        }
        switch (word) {
            case "write":
                return write(p, a, b);
            case "seek":
                return seek(p, a, b);
            case "switch":
                return switchTo(p, a);
            case "sync":
                return sync();
            case "crash":
                return crash(a);
            default:
                return label(a, b);
        }
    }

    int result(int i) {
        if (i == -1) {
            return results.size();
        }
        if (i < 0 || i >= results.size()) {
            throw new IndexOutOfBoundsException();
        }
        return results.get(i);
    }
}
