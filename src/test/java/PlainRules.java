import java.util.ArrayList;
import java.util.HashMap;
import java.util.HashSet;
import java.util.List;
import java.util.Map;
import java.util.Set;
import java.util.TreeSet;
import java.util.regex.Matcher;
import java.util.regex.Pattern;

/** A policy read and asked in the plainest way, with sets of names, to compare answers with. */
final class PlainRules {
    static final List<String> CLASSES = List.of("file", "dir", "process", "pipe", "handle");
    static final List<List<String>> PERMISSIONS = List.of(
            List.of("read", "write", "append", "create", "unlink", "link", "rename", "relabel", "look", "entry"),
            List.of("read", "search", "add", "remove", "create", "unlink", "rename", "relabel", "look"),
            List.of("fork", "become", "signal", "trace", "switch"),
            List.of("read", "write", "create"),
            List.of("use"));
    private static final Set<String> WORDS = words();
    private static final Pattern BLANKS = Pattern.compile("(?:[ \n]|#[^\n]*)*");
    private static final Pattern TOKEN = Pattern.compile("[a-z][a-z0-9_]*|==|!=|[{}():;,*]");

    /** The place of a fault. */
    static final class Fault extends RuntimeException {
        private static final long serialVersionUID = 1L;
        final int place;

        Fault(int place) {
            this.place = place;
        }
    }

    /** A condition over the numbers of two contexts. */
    interface Condition {
        boolean holds(int source, int target);
    }

    record Rule(String sort, String source, String target, int kind, Set<Integer> permissions, int place) {
    }

    record Move(int source, int target, int kind, int type, int place) {
    }

    record Limit(int kind, Set<Integer> permissions, Condition condition) {
    }

    final List<String> types = new ArrayList<>();
    final List<String> attributes = new ArrayList<>();
    final List<String> roles = new ArrayList<>();
    final List<String> users = new ArrayList<>();
    final List<Rule> rules = new ArrayList<>();
    final List<Move> moves = new ArrayList<>();
    final List<Limit> limits = new ArrayList<>();
    private final Map<String, Set<String>> members = new HashMap<>();
    private final String text;
    private int place;
    private String token;

    private static Set<String> words() {
        Set<String> words = new HashSet<>(List.of("attribute", "type", "role", "user", "allow", "never", "audit",
                "quiet", "move", "limit", "self", "or", "and", "not", "u1", "r1", "t1", "u2", "r2", "t2"));
        words.addAll(CLASSES);
        PERMISSIONS.forEach(words::addAll);
        return words;
    }

    /** Throws Fault. */
    PlainRules(String text) {
        this.text = text;
        this.place = 0;
        this.token = "";
        next();
        while (!token.equals("END")) {
            statement();
            take(";");
        }
        contradictions();
    }

    private void next() {
        int from = place + (token.equals("END") ? 0 : token.length());
        Matcher blanks = BLANKS.matcher(text).region(from, text.length());
        blanks.lookingAt();
        place = blanks.end();
        Matcher found = TOKEN.matcher(text).region(place, text.length());
        if (place == text.length()) {
            token = "END";
        } else if (found.lookingAt() && (found.group().length() <= 9)) {
            token = found.group();
        } else {
            token = "?";
        }
    }

    private Fault fault() {
        return new Fault(place);
    }

    private void take(String wanted) {
        if (!token.equals(wanted)) {
            throw fault();
        }
        next();
    }

    private void statement() {
        switch (token) {
            case "attribute" -> {
                room(attributes, 8);
                members.put(declared(attributes), new TreeSet<>());
            }
            case "type" -> {
                room(types, 24);
                String type = declared(types);
                while (token.equals(",")) {
                    next();
                    members.get(oneOf(attributes)).add(type);
                }
            }
            case "role" -> {
                room(roles, 6);
                String role = declared(roles);
                members.put(role, list(types));
            }
            case "user" -> {
                room(users, 4);
                String user = declared(users);
                members.put(user, list(roles));
            }
            case "allow", "never", "audit", "quiet" -> rule();
            case "move" -> move();
            case "limit" -> limit();
            default -> throw fault();
        }
    }

    private void room(List<?> list, int most) {
        if (list.size() == most) {
            throw fault();
        }
        next();
    }

    private boolean isName() {
        return Character.isLowerCase(token.charAt(0)) && !WORDS.contains(token);
    }

    private String declared(List<String> list) {
        boolean taken = types.contains(token) || attributes.contains(token) || roles.contains(token) || users.contains(token);
        if (!isName() || taken) {
            throw fault();
        }
        String name = token;
        list.add(name);
        next();
        return name;
    }

    private String oneOf(List<String> list) {
        if (!isName() || !list.contains(token)) {
            throw fault();
        }
        String name = token;
        next();
        return name;
    }

    private Set<String> list(List<String> of) {
        Set<String> names = new TreeSet<>();
        take("{");
        do {
            names.add(oneOf(of));
        } while (!token.equals("}"));
        next();
        return names;
    }

    private String side(boolean target) {
        if (token.equals("*") || (target && token.equals("self"))) {
            String side = token;
            next();
            return side;
        }
        return types.contains(token) ? oneOf(types) : oneOf(attributes);
    }

    private int kind() {
        int kind = CLASSES.indexOf(token);
        if (kind < 0) {
            throw fault();
        }
        next();
        return kind;
    }

    private Set<Integer> permissions(int kind) {
        Set<Integer> found = new TreeSet<>();
        if (token.equals("*")) {
            next();
            for (int i = 0; i < PERMISSIONS.get(kind).size(); i++) {
                found.add(i);
            }
        } else if (token.equals("{")) {
            next();
            do {
                found.add(permission(kind));
            } while (!token.equals("}"));
            next();
        } else {
            found.add(permission(kind));
        }
        return found;
    }

    private int permission(int kind) {
        int number = PERMISSIONS.get(kind).indexOf(token);
        if (number < 0) {
            throw fault();
        }
        next();
        return number;
    }

    private void rule() {
        int first = place;
        String sort = token;
        room(rules, 60);
        String source = side(false);
        String target = side(true);
        take(":");
        int kind = kind();
        rules.add(new Rule(sort, source, target, kind, permissions(kind), first));
    }

    private void move() {
        int first = place;
        room(moves, 12);
        int source = types.indexOf(oneOf(types));
        int target = types.indexOf(oneOf(types));
        take(":");
        int kind = kind();
        moves.add(new Move(source, target, kind, types.indexOf(oneOf(types)), first));
    }

    private void limit() {
        room(limits, 8);
        int kind = kind();
        Set<Integer> permissions = permissions(kind);
        limits.add(new Limit(kind, permissions, condition(0)));
    }

    private Condition condition(int depth) {
        Condition left = choice(depth);
        while (token.equals("or")) {
            next();
            Condition one = left;
            Condition other = choice(depth);
            left = (s, t) -> one.holds(s, t) || other.holds(s, t);
        }
        return left;
    }

    private Condition choice(int depth) {
        Condition left = test(depth);
        while (token.equals("and")) {
            next();
            Condition one = left;
            Condition other = test(depth);
            left = (s, t) -> one.holds(s, t) && other.holds(s, t);
        }
        return left;
    }

    private Condition test(int depth) {
        if ((token.equals("(") || token.equals("not")) && depth == 10) {
            throw fault();
        }
        if (token.equals("(")) {
            next();
            Condition inner = condition(depth + 1);
            take(")");
            return inner;
        }
        if (token.equals("not")) {
            next();
            Condition inner = test(depth + 1);
            return (s, t) -> !inner.holds(s, t);
        }
        return comparison();
    }

    private Condition comparison() {
        String left = token;
        if (!left.matches("[urt][12]")) {
            throw fault();
        }
        next();
        boolean equal = token.equals("==");
        if (!equal && !token.equals("!=")) {
            throw fault();
        }
        next();
        String other = left.charAt(0) + (left.charAt(1) == '1' ? "2" : "1");
        if (token.equals(other)) {
            next();
            char letter = left.charAt(0);
            return (s, t) -> (part(letter, s) == part(letter, t)) == equal;
        }
        if (left.charAt(0) != 't') {
            throw fault();
        }
        String name = types.contains(token) ? oneOf(types) : oneOf(attributes);
        boolean source = left.equals("t1");
        return (s, t) -> meant(name).contains(types.get(part('t', source ? s : t))) == equal;
    }

    private static int part(char letter, int context) {
        return letter == 'u' ? context / 1000 : letter == 'r' ? context / 100 % 10 : context % 100;
    }

    private Set<String> meant(String name) {
        if (name.equals("*")) {
            return new TreeSet<>(types);
        }
        return attributes.contains(name) ? members.get(name) : Set.of(name);
    }

    private boolean covers(Rule rule, String source, String target) {
        boolean second = rule.target.equals("self") ? source.equals(target) : meant(rule.target).contains(target);
        return second && meant(rule.source).contains(source);
    }

    private void contradictions() {
        for (Rule never : rules) {
            for (Rule allow : rules) {
                if (never.sort.equals("never") && allow.sort.equals("allow") && meet(never, allow)) {
                    throw new Fault(never.place);
                }
            }
        }
        for (int i = 0; i < moves.size(); i++) {
            Move move = moves.get(i);
            for (Move earlier : moves.subList(0, i)) {
                if (move.source == earlier.source && move.target == earlier.target && move.kind == earlier.kind
                        && move.type != earlier.type) {
                    throw new Fault(move.place);
                }
            }
        }
    }

    private boolean meet(Rule one, Rule other) {
        Set<Integer> both = new TreeSet<>(one.permissions);
        both.retainAll(other.permissions);
        if (one.kind != other.kind || both.isEmpty()) {
            return false;
        }
        for (String source : types) {
            for (String target : types) {
                if (covers(one, source, target) && covers(other, source, target)) {
                    return true;
                }
            }
        }
        return false;
    }

    boolean isValid(int context) {
        int user = context / 1000;
        int role = context / 100 % 10;
        int type = context % 100;
        if (context < 0 || user >= users.size() || role >= roles.size() || type >= types.size()) {
            return false;
        }
        return members.get(users.get(user)).contains(roles.get(role))
                && members.get(roles.get(role)).contains(types.get(type));
    }

    Set<Integer> ruled(String sort, int source, int target, int kind) {
        Set<Integer> found = new TreeSet<>();
        for (Rule rule : rules) {
            if (rule.sort.equals(sort) && rule.kind == kind && covers(rule, types.get(source % 100), types.get(target % 100))) {
                found.addAll(rule.permissions);
            }
        }
        return found;
    }

    Set<Integer> vector(int source, int target, int kind) {
        Set<Integer> found = ruled("allow", source, target, kind);
        for (Limit limit : limits) {
            if (limit.kind == kind && !limit.condition.holds(source, target)) {
                found.removeAll(limit.permissions);
            }
        }
        return found;
    }

    int move(int source, int target, int kind) {
        for (Move move : moves) {
            if (move.source == source && move.target == target && move.kind == kind) {
                return move.type;
            }
        }
        return -1;
    }
}
