import java.util.List;
import java.util.Random;

/** Makes texts of policies and events, right ones and spoilt ones, from a seed. */
final class TextMaker {
    private static final List<String> SCRAPS = List.of(";", ",", "{", "}", "(", ")", ":", "*", "==", "!=", "=", "!", "#",
            "\n", " ", "type", "role", "self", "not", "and", "or", "t1", "t2", "u1", "r2", "a", "b", "x", "x0", "r_0", "u_0", "nobody",
            "tenletters", "ninesigns", "read", "use", "add", "file", "dir", "handle", "9", "_", "A", "limit", "move", "0",
            "12345678", "123456789", "look", "sync", "fork", "allow", "never a a:file read;", "type a;", "move a a:file a;");
    private static final String[] ACTS = {"look", "mkdir", "rmdir", "unlink", "run", "open", "link", "rename", "relabel",
        "close", "dup", "read", "list", "empty", "write", "seek", "fork", "pipe", "leave", "signal", "trace", "switch"};

    private final Random random;
    private int types;
    private int attributes;
    private int roles;
    private int users;
    private int firstName;
    private int commonNames;

    TextMaker(long seed) {
        random = new Random(seed);
    }

    int below(int n) {
        return random.nextInt(n);
    }

    boolean chance(int percent) {
        return below(100) < percent;
    }

    /** How large the policies are that follow, and which names paths mostly have. */
    void size() {
        boolean large = chance(20);
        types = 1 + below(large ? 24 : 5);
        attributes = below(large ? 9 : 3);
        roles = 1 + below(large ? 6 : 3);
        users = 1 + below(large ? 4 : 2);
        firstName = below(99);
        commonNames = chance(80) ? 3 : 12;
    }

    private String type() {
        return String.valueOf((char) ('a' + below(types)));
    }

    private String meant() {
        return attributes > 0 && chance(30) ? "x" + below(attributes) : type();
    }

    String policy(int freedom) {
        StringBuilder text = new StringBuilder();
        for (int i = 0; i < attributes; i++) {
            text.append("attribute x").append(i).append("; ");
        }
        for (int i = 0; i < types; i++) {
            text.append("type ").append((char) ('a' + i));
            for (int j = 0; j < attributes; j++) {
                text.append(chance(80 / attributes) ? ", x" + j : "");
            }
            text.append(chance(10) ? " # a comment; type zz\n;" : ";");
        }
        for (int i = 0; i < roles; i++) {
            text.append("role r_").append(i).append("{a");
            for (int j = 0; j < types; j++) {
                text.append(chance(types > 5 ? 50 : 80) ? " " + (char) ('a' + j) : "");
            }
            text.append("};");
        }
        for (int i = 0; i < users; i++) {
            text.append("user u_").append(i).append(" {r_0");
            for (int j = 0; j < roles; j++) {
                text.append(chance(80) ? " r_" + j : "");
            }
            text.append("};");
        }
        rules(text, freedom);
        return text.substring(0, Math.min(text.length(), 1200));
    }

    private void rules(StringBuilder text, int freedom) {
        for (int kind = 0; kind < 5; kind++) {
            if (chance(freedom)) {
                text.append("allow * *:").append(PlainRules.CLASSES.get(kind)).append(" *;");
            }
        }
        int more = below(10);
        for (int i = 0; i < more; i++) {
            String sort = chance(50) ? "allow" : chance(40) ? "audit" : chance(90) ? "quiet" : "never";
            int kind = below(5);
            text.append(sort).append(' ').append(chance(20) ? "*" : meant()).append(' ');
            text.append(chance(20) ? "*" : chance(20) ? "self" : meant()).append(':');
            text.append(PlainRules.CLASSES.get(kind)).append(' ').append(permissions(kind)).append(";\n");
        }
        more = below(5);
        for (int i = 0; i < more; i++) {
            text.append("move ").append(type()).append(' ').append(type()).append(':');
            text.append(PlainRules.CLASSES.get(below(3))).append(' ').append(type()).append(';');
        }
        more = below(4);
        for (int i = 0; i < more; i++) {
            int kind = below(5);
            text.append("limit ").append(PlainRules.CLASSES.get(kind)).append(' ').append(permissions(kind)).append(' ');
            text.append(condition(3)).append(';');
        }
    }

    private String permissions(int kind) {
        List<String> names = PlainRules.PERMISSIONS.get(kind);
        if (chance(20)) {
            return "*";
        }
        if (chance(50)) {
            return names.get(below(names.size()));
        }
        StringBuilder list = new StringBuilder("{");
        for (int i = 1 + below(3); i > 0; i--) {
            list.append(' ').append(names.get(below(names.size())));
        }
        return list.append("}").toString();
    }

    String condition(int depth) {
        int form = depth == 0 ? 0 : below(6);
        switch (form) {
            case 1:
                return condition(depth - 1) + " or " + condition(depth - 1);
            case 2:
                return condition(depth - 1) + " and " + condition(depth - 1);
            case 3:
                return "not " + condition(depth - 1);
            case 4:
                return "(" + condition(depth - 1) + ")";
            default:
                String letter = String.valueOf("urt".charAt(below(3)));
                String compared = chance(50) ? "==" : " != ";
                if (letter.equals("t") && chance(60)) {
                    return (chance(50) ? "t1" : "t2") + compared + meant();
                }
                return chance(50) ? letter + "1" + compared + letter + "2" : letter + "2" + compared + letter + "1";
        }
    }

    int name() {
        return 1 + (chance(85) ? (firstName + below(commonNames)) % 99 : below(chance(70) ? 14 : 99));
    }

    int path() {
        int path = 0;
        int names = chance(5) ? 0 : chance(60) ? 1 : chance(70) ? 2 : 3 + below(2);
        for (int i = 0; i < names; i++) {
            path = path * 100 + name();
        }
        return chance(2) ? path * 100 : chance(1) ? -path : path;
    }

    int context() {
        if (chance(3)) {
            return -1 - below(3);
        }
        return below(users + (chance(5) ? 1 : 0)) * 1000 + below(roles + (chance(5) ? 1 : 0)) * 100
                + below(types + (chance(5) ? 1 : 0));
    }

    int process() {
        return chance(80) ? below(2) : below(9) - (chance(10) ? 1 : 0);
    }

    int handle() {
        return chance(50) ? below(2) : chance(95) ? below(6) : below(8) - 1;
    }

    private int positive(int number) {
        return Math.abs(number);
    }

    String events() {
        StringBuilder text = new StringBuilder();
        for (int i = below(30); i > 0; i--) {
            text.append(event()).append(chance(80) ? ";" : " ;#;\n");
        }
        return text.substring(0, Math.min(text.length(), 1200));
    }

    private String event() {
        if (chance(4)) {
            return chance(50) ? "sync" : chance(50) ? "crash " + below(6) : "label " + below(6) + " " + positive(context());
        }
        int act = below(ACTS.length);
        String head = positive(process()) + (chance(80) ? " " : "") + ACTS[act] + (chance(80) ? " " : "");
        if (act < 5) {
            return head + positive(path());
        }
        if (act < 9) {
            return head + positive(path()) + " " + (act == 5 ? below(33) : act == 8 ? positive(context()) : positive(path()));
        }
        if (act < 14) {
            return head + positive(handle());
        }
        if (act < 16) {
            return head + positive(handle()) + " " + below(act == 14 ? 1000 : 27);
        }
        return act < 19 ? head : head + (act == 21 ? positive(context()) : positive(process()));
    }

    String spoilt(String text) {
        StringBuilder spoilt = new StringBuilder(text);
        for (int i = below(2); i >= 0; i--) {
            int at = below(spoilt.length() + 1);
            int to = Math.min(spoilt.length(), at + below(4));
            switch (below(4)) {
                case 0:
                    spoilt.delete(at, to);
                    break;
                case 1:
                    spoilt.insert(at, SCRAPS.get(below(SCRAPS.size())));
                    break;
                case 2:
                    spoilt.replace(at, to, SCRAPS.get(below(SCRAPS.size())));
                    break;
                default:
                    spoilt.setLength(chance(30) ? at : spoilt.length());
                    break;
            }
        }
        return spoilt.substring(0, Math.min(spoilt.length(), 1200));
    }
}
