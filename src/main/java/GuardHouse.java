import java.util.Arrays;
import java.util.NoSuchElementException;

/** Processes whose every act is granted only by a policy; the document's promises say how. */
public final class GuardHouse {
    public static final int NONE = -1;
    public static final int DENIED = -2;
    public static final int NOT_THERE = -3;
    public static final int NO_DIRECTORY = -4;
    public static final int IS_DIRECTORY = -5;
    public static final int EXISTS = -6;
    public static final int NO_ROOM = -7;
    public static final int NOT_EMPTY = -8;
    public static final int NO_HANDLE = -9;
    public static final int WRONG_MODE = -10;
    public static final int NO_CONTEXT = -11;
    public static final int WAITS = -12;
    public static final int BROKEN = -13;
    public static final int INSIDE = -14;

    // Acts tell an exception as a result, so that events can keep it and the face can throw it.
    private static final int WRONG_NUMBER = -100;
    private static final int NO_SUCH = -101;
    private static final int NO_POLICY = -102;

    private static final int PROCESSES = 8;
    private static final int HANDLES = 6;
    private static final int OPENINGS = 16;
    private static final int PIPES = 4;
    private static final int PIPE_BYTES = 8;
    private static final int NODES = 32;
    private static final int FILE_BYTES = 24;
    private static final int ENTRIES = 10;
    private static final int BEHIND_THE_LAST = 256;
    private static final int HIGHEST_PATH = 99999999;

    private static final int FILE = 0;
    private static final int DIRECTORY = 1;
    private static final int PROCESS = 2;
    private static final int PIPE = 3;
    private static final int HANDLE = 4;
    private static final int CLASSES = 5;

    private static final int READ = 1;
    private static final int WRITE = 2;
    private static final int APPEND = 4;
    private static final int FILE_CREATE = 8;
    private static final int FILE_UNLINK = 16;
    private static final int FILE_LINK = 32;
    private static final int FILE_ENTRY = 512;
    private static final int DIR_SEARCH = 2;
    private static final int DIR_ADD = 4;
    private static final int DIR_REMOVE = 8;
    private static final int DIR_CREATE = 16;
    private static final int DIR_UNLINK = 32;
    // These three have the same bits for files and directories.
    private static final int NODE_RENAME = 64;
    private static final int NODE_RELABEL = 128;
    private static final int NODE_LOOK = 256;
    private static final int PROCESS_FORK = 1;
    private static final int PROCESS_BECOME = 2;
    private static final int PROCESS_SIGNAL = 4;
    private static final int PROCESS_TRACE = 8;
    private static final int PROCESS_SWITCH = 16;
    private static final int PIPE_CREATE = 4;
    private static final int HANDLE_USE = 1;

    private static final int MAKE_IT = 8;
    private static final int EMPTY_IT = 16;
    private static final int HIGHEST_MODE = 31;

    // Acts stand in the order of the face's kinds, so that a kind and a first act give the act.
    private static final int LOOK = 0;
    private static final int MAKE_DIRECTORY = 1;
    private static final int REMOVE_DIRECTORY = 2;
    private static final int UNLINK = 3;
    private static final int RUN = 4;
    private static final int OPEN = 5;
    private static final int LINK = 6;
    private static final int RENAME = 7;
    private static final int RELABEL = 8;
    private static final int CLOSE = 9;
    private static final int DUP = 10;
    private static final int READ_BYTE = 11;
    private static final int LIST = 12;
    private static final int EMPTY = 13;
    private static final int WRITE_BYTE = 14;
    private static final int SEEK = 15;
    private static final int FORK = 16;
    private static final int MAKE_PIPE = 17;
    private static final int LEAVE = 18;
    private static final int SIGNAL = 19;
    private static final int TRACE = 20;
    private static final int SWITCH = 21;
    private static final int SYNC = 22;
    private static final int CRASH = 23;
    private static final int LABEL = 24;

    private final Text text = new Text();
    private final Compiler compiler = new Compiler(text);
    private final EventReader reader = new EventReader(text);
    private final Guard guard = new Guard();
    private final Journal journal = new Journal();
    private final Holdings holdings = new Holdings(journal.now);
    private final PathActs pathActs = new PathActs(guard, journal, holdings);
    private final HandleActs handleActs = new HandleActs(guard, journal, holdings);
    // The shortest event is "sync;", so no text has more.
    private final int[] results = new int[Text.MOST / 5];
    private int resultCount;

    public GuardHouse() {
    }

    public int put(int signs) throws IllegalArgumentException, UnsupportedOperationException {
        int more = 0;
        for (int i = 0; i < 4; i++) {
            int sign = (signs >>> (8 * i)) & 255;
            if (!Text.isSign(sign)) {
                throw new IllegalArgumentException("no sign of a text");
            }
            more += sign == 0 ? 0 : 1;
        }
        if (text.size + more > Text.MOST) {
            throw new UnsupportedOperationException("the text is full");
        }
        for (int i = 0; i < 4; i++) {
            text.add((signs >>> (8 * i)) & 255);
        }
        return text.size;
    }

    public void end(int n) throws IllegalArgumentException {
        if (n < 0 || n > text.size) {
            throw new IllegalArgumentException("no such end");
        }
        text.size = n;
    }

    public int load() throws IllegalStateException {
        int fault = compiler.compile();
        if (fault != NONE) {
            return fault;
        }
        if (!isTaken(compiler.draft)) {
            throw new IllegalStateException("a context is not valid by it");
        }
        if (!guard.loaded) {
            journal.now.makeRoot();
            holdings.startAnew();
        }
        guard.take(compiler.exchange(guard.policy));
        journal.makeSure();
        return NONE;
    }

    private boolean isTaken(Policy draft) {
        return draft.isValid(0) && journal.now.isValidBy(draft) && holdings.isValidBy(draft);
    }

    public int policy(int what) throws IllegalStateException, IllegalArgumentException {
        if (!guard.loaded) {
            throw new IllegalStateException("no policy");
        }
        if (what < 0 || what >= Policy.COUNTS) {
            throw new IllegalArgumentException("no such count");
        }
        return guard.policy.counts[what];
    }

    public int vector(int source, int target, int kind) throws IllegalStateException, IllegalArgumentException {
        if (!guard.loaded) {
            throw new IllegalStateException("no policy");
        }
        if (!guard.policy.isValid(source) || !guard.policy.isValid(target) || !isClass(kind)) {
            throw new IllegalArgumentException("no such context or class");
        }
        return guard.policy.vectorOf(source, target, kind);
    }

    public int move(int source, int target, int kind) throws IllegalStateException, IllegalArgumentException {
        if (!guard.loaded) {
            throw new IllegalStateException("no policy");
        }
        if (!guard.policy.isType(source) || !guard.policy.isType(target) || !isClass(kind)) {
            throw new IllegalArgumentException("no such type or class");
        }
        return guard.policy.movedType(source, target, kind);
    }

    private static boolean isClass(int kind) {
        return kind >= 0 && kind < CLASSES;
    }

    public int identifier(int context) throws IllegalArgumentException {
        if (context < 0) {
            throw new IllegalArgumentException("no context is below 0");
        }
        return guard.identifierOf(context);
    }

    public int onPath(int p, int kind, int path)
            throws IllegalStateException, IllegalArgumentException, NoSuchElementException {
        return told(act(actOf(LOOK, kind, 5), p, path, 0));
    }

    public int onPaths(int p, int kind, int path, int other)
            throws IllegalStateException, IllegalArgumentException, NoSuchElementException {
        return told(act(actOf(OPEN, kind, 4), p, path, other));
    }

    public int onHandle(int p, int kind, int h)
            throws IllegalStateException, IllegalArgumentException, NoSuchElementException {
        return told(act(actOf(CLOSE, kind, 5), p, h, 0));
    }

    public int write(int p, int h, int b)
            throws IllegalStateException, IllegalArgumentException, NoSuchElementException {
        return told(act(WRITE_BYTE, p, h, b));
    }

    public int seek(int p, int h, int at)
            throws IllegalStateException, IllegalArgumentException, NoSuchElementException {
        return told(act(SEEK, p, h, at));
    }

    public int alone(int p, int kind)
            throws IllegalStateException, IllegalArgumentException, NoSuchElementException {
        return told(act(actOf(FORK, kind, 3), p, 0, 0));
    }

    public int onProcess(int p, int kind, int q)
            throws IllegalStateException, IllegalArgumentException, NoSuchElementException {
        return told(act(actOf(SIGNAL, kind, 2), p, q, 0));
    }

    public int switchTo(int p, int context)
            throws IllegalStateException, IllegalArgumentException, NoSuchElementException {
        return told(act(SWITCH, p, context, 0));
    }

    public void label(int n, int context)
            throws IllegalStateException, IllegalArgumentException, NoSuchElementException {
        told(act(LABEL, NONE, n, context));
    }

    public int context(int i, int what) throws IllegalArgumentException {
        if (what < 0 || what > 2 || i < 0 || i >= (what == 0 ? PROCESSES : what == 1 ? NODES : PIPES)) {
            throw new IllegalArgumentException("no such number");
        }
        if (what == 0) {
            return holdings.processes[i];
        }
        if (what == 1) {
            return journal.now.isThere(i) ? journal.now.contexts[i] : NONE;
        }
        return holdings.pipeContexts[i];
    }

    public int node(int n, int what) throws IllegalArgumentException, NoSuchElementException {
        if (n < 0 || n >= NODES || what < 0) {
            throw new IllegalArgumentException("no such number");
        }
        Tree tree = journal.now;
        if (!tree.isThere(n) || what - 3 >= tree.sizes[n]) {
            throw new NoSuchElementException("no such node, byte or entry");
        }
        if (what == 0) {
            return tree.isDirectory(n) ? 1 : 0;
        }
        if (what == 1) {
            return tree.sizes[n];
        }
        return what == 2 ? tree.linksOf(n) : tree.contentAt(n, what - 3);
    }

    public int record(int i, int what) throws IndexOutOfBoundsException, IllegalArgumentException {
        if (i < 0 || i >= guard.recordsKept()) {
            throw new IndexOutOfBoundsException("no such record");
        }
        if (what < 0 || what >= Guard.RECORD_NUMBERS) {
            throw new IllegalArgumentException("no such number of a record");
        }
        return guard.recordNumber(i, what);
    }

    public int about(int what) throws IllegalArgumentException {
        switch (what) {
            case 0:
                return guard.recordCount;
            case 1:
                return guard.questions;
            case 2:
                return guard.hits;
            case 3:
                return guard.cacheSize;
            case 4:
                return journal.deedCount;
            case 5:
                return holdings.openingCount();
            case 6:
                return holdings.pipeCount();
            case 7:
                return guard.identifierCount;
            default:
                throw new IllegalArgumentException("no such count");
        }
    }

    public int events() {
        int fault = reader.fault();
        if (fault == NONE) {
            resultCount = 0;
            reader.start();
            for (int i = 0; i < results.length && reader.readEvent(); i++) {
                results[i] = act(reader.act, reader.process, reader.first, reader.second);
                resultCount++;
            }
        }
        text.size = 0;
        return fault;
    }

    public int result(int i) throws IndexOutOfBoundsException {
        if (i == NONE) {
            return resultCount;
        }
        if (i < 0 || i >= resultCount) {
            throw new IndexOutOfBoundsException("no such event");
        }
        return results[i];
    }

    public void sync() {
        act(SYNC, NONE, 0, 0);
    }

    public void crash(int n) throws IllegalStateException, IllegalArgumentException {
        told(act(CRASH, NONE, n, 0));
    }

    private static int actOf(int first, int kind, int kinds) {
        return kind >= 0 && kind < kinds ? first + kind : NONE;
    }

    private static int told(int result) {
        if (result == NO_POLICY) {
            throw new IllegalStateException("no policy");
        }
        if (result == WRONG_NUMBER) {
            throw new IllegalArgumentException("a number is not as it must be");
        }
        if (result == NO_SUCH) {
            throw new NoSuchElementException("no such process or node");
        }
        return result;
    }

    private int act(int act, int p, int a, int b) {
        if (act == SYNC) {
            return synced();
        }
        if (!guard.loaded) {
            return NO_POLICY;
        }
        if (!isRight(act, p, a, b)) {
            return WRONG_NUMBER;
        }
        if (act == CRASH) {
            return crashed(a);
        }
        if (act == LABEL) {
            return labelled(a, b);
        }
        if (!holdings.isProcess(p) || ((act == SIGNAL || act == TRACE) && !holdings.isProcess(a))) {
            return NO_SUCH;
        }
        switch (act) {
            case LOOK:
                return pathActs.look(p, a);
            case MAKE_DIRECTORY:
                return pathActs.makeDirectory(p, a);
            case REMOVE_DIRECTORY:
                return pathActs.removeDirectory(p, a);
            case UNLINK:
                return pathActs.unlink(p, a);
            case RUN:
                return pathActs.run(p, a);
            case OPEN:
                return pathActs.open(p, a, b);
            case LINK:
                return pathActs.link(p, a, b);
            case RENAME:
                return pathActs.rename(p, a, b);
            case RELABEL:
                return pathActs.relabel(p, a, b);
            default:
                return handleActs.act(act, p, a, b);
        }
    }

    private boolean isRight(int act, int p, int a, int b) {
        if (act == CRASH) {
            return a >= 0 && a <= journal.deedCount;
        }
        if (act == LABEL) {
            return a >= 0 && a < NODES && guard.policy.isValid(b);
        }
        if (act < 0 || p < 0 || p >= PROCESSES) {
            return false;
        }
        if (act <= RELABEL) {
            return PathActs.isPath(a) && isRightBehindPath(act, b);
        }
        if (act <= SEEK) {
            return a >= 0 && a < HANDLES && (act != SEEK || (b >= 0 && b <= FILE_BYTES));
        }
        if (act == SIGNAL || act == TRACE) {
            return a >= 0 && a < PROCESSES;
        }
        return act != SWITCH || a >= 0;
    }

    private static boolean isRightBehindPath(int act, int b) {
        if (act == OPEN) {
            return b >= 0 && b <= HIGHEST_MODE;
        }
        if (act == LINK || act == RENAME) {
            return PathActs.isPath(b);
        }
        return act != RELABEL || b >= 0;
    }

    private int synced() {
        if (guard.loaded) {
            journal.makeSure();
        }
        return 0;
    }

    private int crashed(int left) {
        journal.fallBack(left);
        holdings.startAnew();
        guard.emptyCache();
        return 0;
    }

    private int labelled(int n, int context) {
        if (!journal.now.isThere(n)) {
            return NO_SUCH;
        }
        journal.note(Tree.RELABELLED, n, context, 0, 0);
        return 0;
    }

    /** The signs that were put, and what both languages of texts have in common. */
    private static final class Text {
        private static final int MOST = 1200;
        private static final int LONGEST_WORD = 9;

        private final byte[] signs = new byte[MOST];
        private int size;

        static boolean isSign(int sign) {
            return sign == 0 || sign == '\n' || (sign >= ' ' && sign <= '~');
        }

        static boolean isLetter(int sign) {
            return sign >= 'a' && sign <= 'z';
        }

        static boolean isDigit(int sign) {
            return sign >= '0' && sign <= '9';
        }

        void add(int sign) {
            if (sign != 0 && size < MOST) {
                signs[size] = (byte) sign;
                size++;
            }
        }

        int at(int place) {
            return place >= 0 && place < size ? signs[place] : NONE;
        }

        int behindBlanks(int from) {
            boolean comment = false;
            int place = from;
            while (place < size) {
                int sign = at(place);
                comment = sign == '#' || (comment && sign != '\n');
                if (!comment && sign != ' ' && sign != '\n') {
                    return place;
                }
                place++;
            }
            return size;
        }

        /** A word of up to nine signs as one number, seven bits a sign; 0 if it is longer. */
        long packed(int from, int to) {
            if (to - from > LONGEST_WORD || from < 0 || to > size) {
                return 0;
            }
            long word = 0;
            for (int i = from; i < to; i++) {
                word = (word << 7) | signs[i];
            }
            return word;
        }

        /** Which of the words, with a blank behind each, is the packed one. */
        static int wordNumber(String words, long packed) {
            int number = 0;
            long word = 0;
            for (int i = 0; i < words.length(); i++) {
                char sign = words.charAt(i);
                if (sign != ' ') {
                    word = (word << 7) | sign;
                } else if (word == packed) {
                    return number;
                } else {
                    number++;
                    word = 0;
                }
            }
            return NONE;
        }
    }

    /** The tokens of a policy's text; single signs are their own kinds. */
    private static final class Tokens {
        private static final int END = 0;
        private static final int WRONG = 1;
        private static final int NAME = 2;
        private static final int EQUAL = 3;
        private static final int UNEQUAL = 4;
        private static final int FIRST_WORD = 200;
        private static final int ATTRIBUTE = 200;
        private static final int TYPE = 201;
        private static final int ROLE = 202;
        private static final int USER = 203;
        private static final int ALLOW = 204;
        private static final int NEVER = 205;
        private static final int AUDIT = 206;
        private static final int QUIET = 207;
        private static final int MOVE = 208;
        private static final int LIMIT = 209;
        private static final int SELF = 210;
        private static final int OR = 211;
        private static final int AND = 212;
        private static final int NOT = 213;
        private static final int U1 = 214;
        private static final int T1 = 216;
        private static final int U2 = 217;
        private static final int T2 = 219;
        private static final int FIRST_CLASS = 220;
        private static final String WORDS = "attribute type role user allow never audit quiet move limit self or and not u1 r1 t1 u2 r2 t2 file dir process pipe handle read write append create unlink link rename relabel look entry search add remove fork become signal trace switch use ";

        private final Text text;
        private int place;
        private int next;
        private int kind;
        private long name;

        Tokens(Text text) {
            this.text = text;
        }

        void start() {
            next = 0;
            advance();
        }

        void advance() {
            place = text.behindBlanks(next);
            name = 0;
            if (!Text.isLetter(text.at(place))) {
                readSign(text.at(place));
                return;
            }
            readName();
            int number = Text.wordNumber(WORDS, name);
            if (name == 0) {
                kind = WRONG;
            } else {
                kind = number == NONE ? NAME : FIRST_WORD + number;
            }
        }

        private void readName() {
            next = place;
            while (next < text.size && isInName(text.at(next))) {
                next++;
            }
            name = text.packed(place, next);
        }

        private static boolean isInName(int sign) {
            return (sign >= 'a' && sign <= 'z') || (sign >= '0' && sign <= '9') || sign == '_';
        }

        private void readSign(int sign) {
            next = place + 1;
            switch (sign) {
                case NONE:
                    kind = END;
                    next = place;
                    break;
                case '{':
                case '}':
                case '(':
                case ')':
                case ':':
                case ';':
                case ',':
                case '*':
                    kind = sign;
                    break;
                case '=':
                case '!':
                    kind = text.at(next) != '=' ? WRONG : sign == '=' ? EQUAL : UNEQUAL;
                    next++;
                    break;
                default:
                    kind = WRONG;
                    break;
            }
        }

        boolean takes(int expected) {
            if (kind != expected) {
                return false;
            }
            advance();
            return true;
        }
    }

    /** What was compiled, and the answers that come from it without a cache. */
    private static final class Policy {
        private static final int TYPES = 0;
        private static final int ATTRIBUTES = 1;
        private static final int ROLES = 2;
        private static final int USERS = 3;
        private static final int RULES = 4;
        private static final int MOVES = 5;
        private static final int LIMITS = 6;
        private static final int COUNTS = 7;
        private static final int[] MOST = {24, 8, 6, 4, 60, 12, 8};

        private static final int ALLOWED = 0;
        private static final int NEVER = 1;
        private static final int AUDITED = 2;
        private static final int QUIET = 3;

        // What a rule or a test names: a type's number, an attribute's behind these, or all types.
        private static final int FIRST_ATTRIBUTE = 100;
        private static final int ALL = 400;
        private static final int ITSELF = -1;

        private static final int SAME_USER = 0;
        private static final int SAME_ROLE = 1;
        private static final int SAME_TYPE = 2;
        private static final int SOURCE_MEANT = 3;
        private static final int TARGET_MEANT = 4;
        // These three stand in the order of their tokens.
        private static final int OR = 5;
        private static final int AND = 6;
        private static final int NOT = 7;

        private final int[] counts = new int[COUNTS];
        private final int[] attributeTypes = new int[8];
        private final int[] roleTypes = new int[6];
        private final int[] userRoles = new int[4];
        private final int[] ruleKinds = new int[60];
        private final int[] ruleSources = new int[60];
        private final int[] ruleTargets = new int[60];
        private final int[] ruleClasses = new int[60];
        private final int[] rulePermissions = new int[60];
        private final int[] moveSources = new int[12];
        private final int[] moveTargets = new int[12];
        private final int[] moveClasses = new int[12];
        private final int[] moveTypes = new int[12];
        private final int[] limitClasses = new int[8];
        private final int[] limitPermissions = new int[8];
        private final int[] limitStarts = new int[9];
        private final int[] codes = new int[Text.MOST];
        private final int[] codeTypes = new int[Text.MOST];
        private int codeCount;

        void clear() {
            Arrays.fill(counts, 0);
            Arrays.fill(attributeTypes, 0);
            codeCount = 0;
        }

        boolean isFull(int what) {
            return counts[what] >= MOST[what];
        }

        void addCode(int code, int named) {
            if (codeCount < codes.length) {
                codes[codeCount] = code;
                codeTypes[codeCount] = named;
                codeCount++;
            }
        }

        /** Attributes get types up to the text's end, so what is meant is known only there. */
        void settleMeanings() {
            for (int i = 0; i < counts[RULES]; i++) {
                ruleSources[i] = meantBy(ruleSources[i]);
                ruleTargets[i] = ruleTargets[i] == ITSELF ? ITSELF : meantBy(ruleTargets[i]);
            }
            for (int i = 0; i < codeCount; i++) {
                codeTypes[i] = meantBy(codeTypes[i]);
            }
        }

        private int meantBy(int named) {
            if (named == ALL) {
                return (1 << counts[TYPES]) - 1;
            }
            if (named < FIRST_ATTRIBUTE) {
                return 1 << named;
            }
            int attribute = named - FIRST_ATTRIBUTE;
            return attribute < counts[ATTRIBUTES] ? attributeTypes[attribute] : 0;
        }

        boolean breaks(int allow, int never) {
            if (ruleKinds[allow] != ALLOWED || ruleClasses[allow] != ruleClasses[never]) {
                return false;
            }
            int sources = ruleSources[allow] & ruleSources[never];
            int targets = ruleTargets[allow] & ruleTargets[never];
            if (ruleTargets[allow] == ITSELF || ruleTargets[never] == ITSELF) {
                targets &= sources;
            }
            return sources != 0 && targets != 0 && (rulePermissions[allow] & rulePermissions[never]) != 0;
        }

        boolean contradicts(int move, int earlier) {
            return moveSources[move] == moveSources[earlier] && moveTargets[move] == moveTargets[earlier]
                    && moveClasses[move] == moveClasses[earlier] && moveTypes[move] != moveTypes[earlier];
        }

        boolean isType(int type) {
            return type >= 0 && type < counts[TYPES];
        }

        boolean isValid(int context) {
            if (context < 0) {
                return false;
            }
            int user = context / 1000;
            int role = context / 100 % 10;
            if (user >= counts[USERS] || role >= counts[ROLES] || !isType(context % 100)) {
                return false;
            }
            return (userRoles[user] >> role & 1) == 1 && (roleTypes[role] >> (context % 100) & 1) == 1;
        }

        int movedType(int source, int target, int kind) {
            for (int i = 0; i < counts[MOVES]; i++) {
                if (moveSources[i] == source && moveTargets[i] == target && moveClasses[i] == kind) {
                    return moveTypes[i];
                }
            }
            return NONE;
        }

        int newContext(int source, int target, int kind, int otherwise) {
            int moved = movedType(source % 100, target % 100, kind);
            int made = source - source % 100 + (moved == NONE ? otherwise % 100 : moved);
            return isValid(made) ? made : NO_CONTEXT;
        }

        /** All permissions that rules of this sort have for the types of both contexts. */
        int ruled(int sort, int source, int target, int kind) {
            int permissions = 0;
            int sourceType = source % 100;
            int targetType = target % 100;
            for (int i = 0; i < counts[RULES]; i++) {
                boolean meant = ruleKinds[i] == sort && ruleClasses[i] == kind && (ruleSources[i] >> sourceType & 1) == 1;
                boolean met = ruleTargets[i] == ITSELF ? sourceType == targetType : (ruleTargets[i] >> targetType & 1) == 1;
                if (meant && met) {
                    permissions |= rulePermissions[i];
                }
            }
            return permissions;
        }

        int vectorOf(int source, int target, int kind) {
            int permissions = ruled(ALLOWED, source, target, kind);
            for (int i = 0; i < counts[LIMITS]; i++) {
                if (limitClasses[i] == kind && !holds(i, source, target)) {
                    permissions &= ~limitPermissions[i];
                }
            }
            return permissions;
        }

        /** The codes stand as in a calculator without brackets; a number's bits are the stack. */
        private boolean holds(int limit, int source, int target) {
            long stack = 0;
            for (int i = limitStarts[limit]; i < limitStarts[limit + 1]; i++) {
                boolean truth = false;
                switch (codes[i]) {
                    case NOT:
                        truth = (stack & 1) == 0;
                        stack >>>= 1;
                        break;
                    case AND:
                        truth = (stack & 3) == 3;
                        stack >>>= 2;
                        break;
                    case OR:
                        truth = (stack & 3) != 0;
                        stack >>>= 2;
                        break;
                    case SAME_USER:
                        truth = source / 1000 == target / 1000;
                        break;
                    case SAME_ROLE:
                        truth = source / 100 % 10 == target / 100 % 10;
                        break;
                    case SAME_TYPE:
                        truth = source % 100 == target % 100;
                        break;
                    case SOURCE_MEANT:
                        truth = (codeTypes[i] >> (source % 100) & 1) == 1;
                        break;
                    default:
                        truth = (codeTypes[i] >> (target % 100) & 1) == 1;
                        break;
                }
                stack = stack << 1 | (truth ? 1 : 0);
            }
            return (stack & 1) == 1;
        }
    }

    /** Reads the text into a draft; a method that reads a part of it is false on the token at fault. */
    private static final class Compiler {
        private static final int FIRST_ROLE = 200;
        private static final int FIRST_USER = 300;
        private static final int SORT_SIZE = 100;
        private static final int DEEPEST = 10;
        private static final int[] ALL_PERMISSIONS = {0x3ff, 0x1ff, 0x1f, 0x7, 0x1};
        private static final String FILE_WORDS = "read write append create unlink link rename relabel look entry ";
        private static final String DIR_WORDS = "read search add remove create unlink rename relabel look ";
        private static final String PROCESS_WORDS = "fork become signal trace switch ";
        private static final String PIPE_WORDS = "read write create ";
        private static final String HANDLE_WORDS = "use ";

        private final Tokens tokens;
        private Policy draft = new Policy();
        private final long[] names = new long[42];
        private final int[] meanings = new int[42];
        private int nameCount;
        private final int[] rulePlaces = new int[60];
        private final int[] movePlaces = new int[12];
        private final int[] waiting = new int[64];
        private int waitingCount;
        private int depth;

        Compiler(Text text) {
            tokens = new Tokens(text);
        }

        /** Gives the draft away and writes the next one over the old policy. */
        Policy exchange(Policy old) {
            Policy compiled = draft;
            draft = old;
            return compiled;
        }

        int compile() {
            draft.clear();
            nameCount = 0;
            tokens.start();
            for (int i = 0; i < Text.MOST && tokens.kind != Tokens.END; i++) {
                boolean right;
                switch (tokens.kind) {
                    case Tokens.ATTRIBUTE:
                        right = attributeStatement();
                        break;
                    case Tokens.TYPE:
                        right = typeStatement();
                        break;
                    case Tokens.ROLE:
                        right = roleStatement();
                        break;
                    case Tokens.USER:
                        right = userStatement();
                        break;
                    case Tokens.ALLOW:
                    case Tokens.NEVER:
                    case Tokens.AUDIT:
                    case Tokens.QUIET:
                        right = ruleStatement();
                        break;
                    case Tokens.MOVE:
                        right = moveStatement();
                        break;
                    case Tokens.LIMIT:
                        right = limitStatement();
                        break;
                    default:
                        right = false;
                        break;
                }
                if (!right || !tokens.takes(';')) {
                    return tokens.place;
                }
            }
            draft.settleMeanings();
            return contradiction();
        }

        private int contradiction() {
            int rules = draft.counts[Policy.RULES];
            for (int i = 0; i < rules; i++) {
                for (int j = 0; j < rules && draft.ruleKinds[i] == Policy.NEVER; j++) {
                    if (draft.breaks(j, i)) {
                        return rulePlaces[i];
                    }
                }
            }
            for (int i = 0; i < draft.counts[Policy.MOVES]; i++) {
                for (int j = 0; j < i; j++) {
                    if (draft.contradicts(i, j)) {
                        return movePlaces[i];
                    }
                }
            }
            return NONE;
        }

        private boolean attributeStatement() {
            if (draft.isFull(Policy.ATTRIBUTES)) {
                return false;
            }
            tokens.advance();
            return declares(Policy.FIRST_ATTRIBUTE, Policy.ATTRIBUTES);
        }

        private boolean typeStatement() {
            int type = draft.counts[Policy.TYPES];
            if (draft.isFull(Policy.TYPES)) {
                return false;
            }
            tokens.advance();
            if (!declares(0, Policy.TYPES)) {
                return false;
            }
            for (int i = 0; i < Text.MOST && tokens.kind == ','; i++) {
                tokens.advance();
                int attribute = numberNamed(Policy.FIRST_ATTRIBUTE);
                if (attribute == NONE) {
                    return false;
                }
                draft.attributeTypes[attribute] |= 1 << type;
                tokens.advance();
            }
            return true;
        }

        private boolean roleStatement() {
            int role = draft.counts[Policy.ROLES];
            if (draft.isFull(Policy.ROLES)) {
                return false;
            }
            tokens.advance();
            if (!declares(FIRST_ROLE, Policy.ROLES)) {
                return false;
            }
            draft.roleTypes[role] = listed(0);
            return draft.roleTypes[role] != 0;
        }

        private boolean userStatement() {
            int user = draft.counts[Policy.USERS];
            if (draft.isFull(Policy.USERS)) {
                return false;
            }
            tokens.advance();
            if (!declares(FIRST_USER, Policy.USERS)) {
                return false;
            }
            draft.userRoles[user] = listed(FIRST_ROLE);
            return draft.userRoles[user] != 0;
        }

        private boolean ruleStatement() {
            int rule = draft.counts[Policy.RULES];
            if (draft.isFull(Policy.RULES)) {
                return false;
            }
            rulePlaces[rule] = tokens.place;
            draft.ruleKinds[rule] = tokens.kind - Tokens.ALLOW;
            tokens.advance();
            draft.ruleSources[rule] = typesNamed();
            if (draft.ruleSources[rule] == NONE) {
                return false;
            }
            tokens.advance();
            draft.ruleTargets[rule] = tokens.kind == Tokens.SELF ? Policy.ITSELF : typesNamed();
            if (tokens.kind != Tokens.SELF && draft.ruleTargets[rule] == NONE) {
                return false;
            }
            tokens.advance();
            draft.ruleClasses[rule] = classNamed();
            if (draft.ruleClasses[rule] == NONE) {
                return false;
            }
            draft.rulePermissions[rule] = permissions(draft.ruleClasses[rule]);
            draft.counts[Policy.RULES]++;
            return draft.rulePermissions[rule] != 0;
        }

        private boolean moveStatement() {
            int move = draft.counts[Policy.MOVES];
            if (draft.isFull(Policy.MOVES)) {
                return false;
            }
            movePlaces[move] = tokens.place;
            tokens.advance();
            draft.moveSources[move] = numberNamed(0);
            if (draft.moveSources[move] == NONE) {
                return false;
            }
            tokens.advance();
            draft.moveTargets[move] = numberNamed(0);
            if (draft.moveTargets[move] == NONE) {
                return false;
            }
            tokens.advance();
            draft.moveClasses[move] = classNamed();
            if (draft.moveClasses[move] == NONE) {
                return false;
            }
            draft.moveTypes[move] = numberNamed(0);
            if (draft.moveTypes[move] == NONE) {
                return false;
            }
            tokens.advance();
            draft.counts[Policy.MOVES]++;
            return true;
        }

        private boolean limitStatement() {
            int limit = draft.counts[Policy.LIMITS];
            if (draft.isFull(Policy.LIMITS)) {
                return false;
            }
            tokens.advance();
            int kind = tokens.kind - Tokens.FIRST_CLASS;
            if (!isClass(kind)) {
                return false;
            }
            tokens.advance();
            draft.limitClasses[limit] = kind;
            draft.limitPermissions[limit] = permissions(kind);
            if (draft.limitPermissions[limit] == 0) {
                return false;
            }
            draft.limitStarts[limit] = draft.codeCount;
            boolean right = condition();
            draft.limitStarts[limit + 1] = draft.codeCount;
            draft.counts[Policy.LIMITS]++;
            return right;
        }

        private boolean declares(int firstOfSort, int sort) {
            if (tokens.kind != Tokens.NAME || meaningOf(tokens.name) != NONE || nameCount >= names.length) {
                return false;
            }
            names[nameCount] = tokens.name;
            meanings[nameCount] = firstOfSort + draft.counts[sort];
            nameCount++;
            draft.counts[sort]++;
            tokens.advance();
            return true;
        }

        private int meaningOf(long name) {
            for (int i = 0; i < nameCount; i++) {
                if (names[i] == name) {
                    return meanings[i];
                }
            }
            return NONE;
        }

        private int numberNamed(int firstOfSort) {
            int number = meaningOf(tokens.name) - firstOfSort;
            return number >= 0 && number < SORT_SIZE ? number : NONE;
        }

        private int typesNamed() {
            if (tokens.kind == '*') {
                return Policy.ALL;
            }
            int meaning = meaningOf(tokens.name);
            return meaning < FIRST_ROLE ? meaning : NONE;
        }

        /** The numbers named between { and }, a bit each; 0 on a fault. */
        private int listed(int firstOfSort) {
            if (!tokens.takes('{')) {
                return 0;
            }
            int list = 0;
            for (int i = 0; i < Text.MOST; i++) {
                if (list != 0 && tokens.takes('}')) {
                    return list;
                }
                int number = numberNamed(firstOfSort);
                if (number == NONE) {
                    return 0;
                }
                list |= 1 << number;
                tokens.advance();
            }
            return 0;
        }

        /** The class behind a : ; NONE on a fault. */
        private int classNamed() {
            if (!tokens.takes(':')) {
                return NONE;
            }
            int kind = tokens.kind - Tokens.FIRST_CLASS;
            if (!isClass(kind)) {
                return NONE;
            }
            tokens.advance();
            return kind;
        }

        /** The permissions of a class, a bit each; 0 on a fault. */
        private int permissions(int kind) {
            if (tokens.takes('*')) {
                return ALL_PERMISSIONS[kind];
            }
            boolean single = !tokens.takes('{');
            int list = 0;
            for (int i = 0; i < Text.MOST; i++) {
                if (list != 0 && (single || tokens.takes('}'))) {
                    return list;
                }
                int number = Text.wordNumber(permissionWords(kind), tokens.name);
                if (number == NONE) {
                    return 0;
                }
                list |= 1 << number;
                tokens.advance();
            }
            return 0;
        }

        private static String permissionWords(int kind) {
            switch (kind) {
                case FILE:
                    return FILE_WORDS;
                case DIRECTORY:
                    return DIR_WORDS;
                case PROCESS:
                    return PROCESS_WORDS;
                case PIPE:
                    return PIPE_WORDS;
                default:
                    return HANDLE_WORDS;
            }
        }

        /** Tests become codes at once; what stands around them waits until what it needs is there. */
        private boolean condition() {
            waitingCount = 0;
            depth = 0;
            for (int i = 0; i < Text.MOST; i++) {
                if (!opens() || !comparison()) {
                    return false;
                }
                closeBrackets();
                int word = tokens.kind;
                if (word != Tokens.OR && word != Tokens.AND) {
                    releaseWaiting(Tokens.OR);
                    return waitingCount == 0;
                }
                releaseWaiting(word);
                await(word);
                tokens.advance();
            }
            return false;
        }

        private boolean opens() {
            for (int i = 0; i <= DEEPEST; i++) {
                if (tokens.kind != '(' && tokens.kind != Tokens.NOT) {
                    return true;
                }
                if (depth >= DEEPEST) {
                    return false;
                }
                depth++;
                await(tokens.kind);
                tokens.advance();
            }
            return false;
        }

        private void closeBrackets() {
            for (int i = 0; i < DEEPEST && tokens.kind == ')'; i++) {
                releaseWaiting(Tokens.OR);
                if (waitingCount == 0) {
                    return;
                }
                waitingCount--;
                depth--;
                tokens.advance();
            }
        }

        private void await(int word) {
            if (waitingCount < waiting.length) {
                waiting[waitingCount] = word;
                waitingCount++;
            }
        }

        /** The kinds of ( or and not rise as they bind, so those from the least one on go. */
        private void releaseWaiting(int least) {
            while (waitingCount > 0 && waiting[waitingCount - 1] >= least) {
                waitingCount--;
                int word = waiting[waitingCount];
                depth -= word == Tokens.NOT ? 1 : 0;
                draft.addCode(Policy.OR + word - Tokens.OR, 0);
            }
        }

        private boolean comparison() {
            int left = tokens.kind;
            if (left < Tokens.U1 || left > Tokens.T2) {
                return false;
            }
            tokens.advance();
            boolean unequal = tokens.kind == Tokens.UNEQUAL;
            if (!unequal && tokens.kind != Tokens.EQUAL) {
                return false;
            }
            tokens.advance();
            boolean ofTypes = left == Tokens.T1 || left == Tokens.T2;
            if (tokens.kind == (left < Tokens.U2 ? left + 3 : left - 3)) {
                draft.addCode(Policy.SAME_USER + (left - Tokens.U1) % 3, 0);
            } else if (ofTypes && tokens.kind == Tokens.NAME && typesNamed() != NONE) {
                draft.addCode(left == Tokens.T1 ? Policy.SOURCE_MEANT : Policy.TARGET_MEANT, typesNamed());
            } else {
                return false;
            }
            tokens.advance();
            if (unequal) {
                draft.addCode(Policy.NOT, 0);
            }
            return true;
        }
    }

    /** Answers questions with a cache; keeps identifiers and records. */
    private static final class Guard {
        private static final int CACHED = 6;
        private static final int RECORDS = 20;
        private static final int RECORD_NUMBERS = 5;

        private Policy policy = new Policy();
        private boolean loaded;
        // As many as there are users, roles and types together.
        private final int[] identified = new int[4 * 6 * 24];
        private int identifierCount;
        private final int[] cacheSources = new int[CACHED];
        private final int[] cacheTargets = new int[CACHED];
        private final int[] cacheClasses = new int[CACHED];
        private final int[] cacheVectors = new int[CACHED];
        private int cacheSize;
        private final int[] records = new int[RECORDS * RECORD_NUMBERS];
        private int recordCount;
        private int questions;
        private int hits;

        void take(Policy taken) {
            policy = taken;
            loaded = true;
            emptyCache();
        }

        void emptyCache() {
            cacheSize = 0;
        }

        boolean grants(int source, int target, int kind, int permissions) {
            questions++;
            identify(source);
            identify(target);
            int row = cacheRow(source, target, kind);
            if (row == NONE) {
                row = cache(source, target, kind, policy.vectorOf(source, target, kind));
            } else {
                hits++;
            }
            int missing = permissions & ~cacheVectors[row];
            int telling = missing == 0
                    ? permissions & policy.ruled(Policy.AUDITED, source, target, kind)
                    : missing & ~policy.ruled(Policy.QUIET, source, target, kind);
            if (telling != 0) {
                addRecord(missing == 0 ? 1 : 0, source, target, kind, permissions);
            }
            return missing == 0;
        }

        private int cacheRow(int source, int target, int kind) {
            for (int i = 0; i < cacheSize; i++) {
                if (cacheSources[i] == source && cacheTargets[i] == target && cacheClasses[i] == kind) {
                    return i;
                }
            }
            return NONE;
        }

        private int cache(int source, int target, int kind, int permissions) {
            if (cacheSize >= CACHED) {
                cacheSize = CACHED - 1;
                System.arraycopy(cacheSources, 1, cacheSources, 0, cacheSize);
                System.arraycopy(cacheTargets, 1, cacheTargets, 0, cacheSize);
                System.arraycopy(cacheClasses, 1, cacheClasses, 0, cacheSize);
                System.arraycopy(cacheVectors, 1, cacheVectors, 0, cacheSize);
            }
            int row = cacheSize;
            cacheSources[row] = source;
            cacheTargets[row] = target;
            cacheClasses[row] = kind;
            cacheVectors[row] = permissions;
            cacheSize++;
            return row;
        }

        private void identify(int context) {
            if (identifierOf(context) == NONE && identifierCount < identified.length) {
                identified[identifierCount] = context;
                identifierCount++;
            }
        }

        int identifierOf(int context) {
            for (int i = 0; i < identifierCount; i++) {
                if (identified[i] == context) {
                    return i + 1;
                }
            }
            return NONE;
        }

        private void addRecord(int granted, int source, int target, int kind, int permissions) {
            int at = Math.floorMod(recordCount, RECORDS) * RECORD_NUMBERS;
            records[at] = granted;
            records[at + 1] = source;
            records[at + 2] = target;
            records[at + 3] = kind;
            records[at + 4] = permissions;
            recordCount++;
        }

        int recordsKept() {
            return Math.min(recordCount, RECORDS);
        }

        int recordNumber(int i, int what) {
            return records[(recordCount - recordsKept() + i) % RECORDS * RECORD_NUMBERS + what];
        }
    }

    /** Nodes with their contents; deeds change it, so that a crash can do them once more. */
    private static final class Tree {
        private static final int FILE_MADE = 0;
        private static final int DIRECTORY_MADE = 1;
        private static final int EMPTIED = 2;
        private static final int WRITTEN = 3;
        private static final int RELABELLED = 4;
        private static final int LINKED = 5;
        private static final int UNLINKED = 6;
        private static final int RENAMED = 7;
        // An entry is its name and this many times its node.
        private static final int NODE_FACTOR = 100;

        private final int[] kinds = new int[NODES];
        private final int[] contexts = new int[NODES];
        private final int[] sizes = new int[NODES];
        private final int[] contents = new int[NODES * FILE_BYTES];

        Tree() {
            Arrays.fill(kinds, NONE);
        }

        void makeRoot() {
            make(0, DIRECTORY, 0);
        }

        private void make(int node, int kind, int context) {
            kinds[node] = kind;
            contexts[node] = context;
            sizes[node] = 0;
        }

        void drop(int node) {
            kinds[node] = NONE;
        }

        boolean isThere(int node) {
            return kinds[node] != NONE;
        }

        boolean isDirectory(int node) {
            return kinds[node] == DIRECTORY;
        }

        boolean isFull(int directory) {
            return sizes[directory] >= ENTRIES;
        }

        boolean isValidBy(Policy policy) {
            for (int i = 0; i < NODES; i++) {
                if (isThere(i) && !policy.isValid(contexts[i])) {
                    return false;
                }
            }
            return true;
        }

        int freeNode() {
            for (int i = 0; i < NODES; i++) {
                if (!isThere(i)) {
                    return i;
                }
            }
            return NONE;
        }

        int contentAt(int node, int i) {
            return i >= 0 && i < sizes[node] ? contents[node * FILE_BYTES + i] : NONE;
        }

        int nodeNamed(int directory, int name) {
            int at = entryNamed(directory, name);
            return at == NONE ? NONE : contentAt(directory, at) / NODE_FACTOR;
        }

        private int entryNamed(int directory, int name) {
            for (int i = 0; i < sizes[directory]; i++) {
                if (contents[directory * FILE_BYTES + i] % NODE_FACTOR == name) {
                    return i;
                }
            }
            return NONE;
        }

        int linksOf(int node) {
            int links = 0;
            for (int i = 0; i < NODES; i++) {
                for (int j = 0; j < sizes[i] && kinds[i] == DIRECTORY; j++) {
                    links += contents[i * FILE_BYTES + j] / NODE_FACTOR == node ? 1 : 0;
                }
            }
            return links;
        }

        void change(int deed, int a, int b, int c, int d) {
            switch (deed) {
                case FILE_MADE:
                    make(a, FILE, d);
                    addEntry(b, c, a);
                    break;
                case DIRECTORY_MADE:
                    make(a, DIRECTORY, d);
                    addEntry(b, c, a);
                    break;
                case EMPTIED:
                    sizes[a] = 0;
                    break;
                case WRITTEN:
                    setByte(a, b, c);
                    break;
                case RELABELLED:
                    contexts[a] = b;
                    break;
                case LINKED:
                    addEntry(b, c, a);
                    break;
                case UNLINKED:
                    removeEntry(a, b);
                    break;
                default:
                    int node = nodeNamed(a, b);
                    removeEntry(a, b);
                    addEntry(c, d, node);
                    break;
            }
        }

        private void addEntry(int directory, int name, int node) {
            if (!isFull(directory)) {
                contents[directory * FILE_BYTES + sizes[directory]] = name + NODE_FACTOR * node;
                sizes[directory]++;
            }
        }

        private void removeEntry(int directory, int name) {
            int at = entryNamed(directory, name);
            if (at == NONE) {
                return;
            }
            int first = directory * FILE_BYTES;
            sizes[directory]--;
            for (int i = at; i < sizes[directory]; i++) {
                contents[first + i] = contents[first + i + 1];
            }
        }

        private void setByte(int file, int at, int value) {
            if (at < 0 || at >= FILE_BYTES) {
                return;
            }
            for (int i = sizes[file]; i < at; i++) {
                contents[file * FILE_BYTES + i] = 0;
            }
            contents[file * FILE_BYTES + at] = value;
            sizes[file] = Math.max(sizes[file], at + 1);
        }

        void copyFrom(Tree other) {
            System.arraycopy(other.kinds, 0, kinds, 0, kinds.length);
            System.arraycopy(other.contexts, 0, contexts, 0, contexts.length);
            System.arraycopy(other.sizes, 0, sizes, 0, sizes.length);
            System.arraycopy(other.contents, 0, contents, 0, contents.length);
        }

        void dropUnlinked() {
            for (int i = 1; i < NODES; i++) {
                if (isThere(i) && linksOf(i) == 0) {
                    drop(i);
                }
            }
        }
    }

    /** The deeds behind what is sure. */
    private static final class Journal {
        private static final int MOST = 200;
        private static final int ROW = 5;

        private final Tree now = new Tree();
        private final Tree sure = new Tree();
        private final int[] deeds = new int[MOST * ROW];
        private int deedCount;

        void note(int deed, int a, int b, int c, int d) {
            now.change(deed, a, b, c, d);
            int at = deedCount * ROW;
            deeds[at] = deed;
            deeds[at + 1] = a;
            deeds[at + 2] = b;
            deeds[at + 3] = c;
            deeds[at + 4] = d;
            deedCount++;
            if (deedCount >= MOST) {
                makeSure();
            }
        }

        void makeSure() {
            sure.copyFrom(now);
            deedCount = 0;
        }

        void fallBack(int left) {
            for (int i = 0; i < left && i < deedCount; i++) {
                int at = i * ROW;
                sure.change(deeds[at], deeds[at + 1], deeds[at + 2], deeds[at + 3], deeds[at + 4]);
            }
            sure.dropUnlinked();
            now.copyFrom(sure);
            deedCount = 0;
        }
    }

    /** Processes, their handles, the openings that these tell, and pipes. */
    private static final class Holdings {
        private final Tree tree;
        private final int[] processes = new int[PROCESSES];
        private final int[] handles = new int[PROCESSES * HANDLES];
        // An opening is there as long as handles tell it.
        private final int[] tellers = new int[OPENINGS];
        private final int[] nodes = new int[OPENINGS];
        private final int[] pipes = new int[OPENINGS];
        private final int[] modes = new int[OPENINGS];
        private final int[] places = new int[OPENINGS];
        private final int[] openers = new int[OPENINGS];
        private final int[] pipeContexts = new int[PIPES];
        private final int[] pipeSizes = new int[PIPES];
        private final int[] pipeBytes = new int[PIPES * PIPE_BYTES];

        Holdings(Tree tree) {
            this.tree = tree;
            Arrays.fill(processes, NONE);
            Arrays.fill(handles, NONE);
            Arrays.fill(pipeContexts, NONE);
        }

        void startAnew() {
            Arrays.fill(processes, NONE);
            Arrays.fill(handles, NONE);
            Arrays.fill(tellers, 0);
            Arrays.fill(pipeContexts, NONE);
            processes[0] = 0;
        }

        boolean isProcess(int p) {
            return p >= 0 && p < PROCESSES && processes[p] != NONE;
        }

        boolean isValidBy(Policy policy) {
            for (int i = 0; i < PROCESSES; i++) {
                if (processes[i] != NONE && !policy.isValid(processes[i])) {
                    return false;
                }
            }
            for (int i = 0; i < OPENINGS; i++) {
                if (tellers[i] > 0 && !policy.isValid(openers[i])) {
                    return false;
                }
            }
            for (int i = 0; i < PIPES; i++) {
                if (pipeContexts[i] != NONE && !policy.isValid(pipeContexts[i])) {
                    return false;
                }
            }
            return true;
        }

        int openingCount() {
            int count = 0;
            for (int i = 0; i < OPENINGS; i++) {
                count += tellers[i] > 0 ? 1 : 0;
            }
            return count;
        }

        int pipeCount() {
            int count = 0;
            for (int i = 0; i < PIPES; i++) {
                count += pipeContexts[i] != NONE ? 1 : 0;
            }
            return count;
        }

        int handleCount(int p) {
            int count = 0;
            for (int i = 0; i < HANDLES; i++) {
                count += handles[p * HANDLES + i] != NONE ? 1 : 0;
            }
            return count;
        }

        int opening(int p, int h) {
            return handles[p * HANDLES + h];
        }

        boolean hasRoomToOpen(int p) {
            return handleCount(p) < HANDLES && openingCount() < OPENINGS;
        }

        /** Behind hasRoomToOpen(): a handle of a new opening of a node or, if that is NONE, a pipe. */
        int open(int p, int node, int pipe, int mode) {
            for (int i = 0; i < OPENINGS; i++) {
                if (tellers[i] == 0) {
                    nodes[i] = node;
                    pipes[i] = pipe;
                    modes[i] = mode & (READ | WRITE | APPEND);
                    places[i] = 0;
                    openers[i] = processes[p];
                    return tell(p, i);
                }
            }
            return NO_ROOM;
        }

        int tell(int p, int opening) {
            for (int i = 0; i < HANDLES; i++) {
                if (handles[p * HANDLES + i] == NONE) {
                    handles[p * HANDLES + i] = opening;
                    tellers[opening]++;
                    return i;
                }
            }
            return NO_ROOM;
        }

        void release(int p, int h) {
            int opening = opening(p, h);
            if (opening == NONE) {
                return;
            }
            handles[p * HANDLES + h] = NONE;
            tellers[opening]--;
            if (tellers[opening] > 0) {
                return;
            }
            if (nodes[opening] != NONE) {
                dropIfUnused(nodes[opening]);
            } else if (!hasEnd(pipes[opening], READ | WRITE)) {
                pipeContexts[pipes[opening]] = NONE;
            }
        }

        /** The root is always there, whatever links and handles it has. */
        void dropIfUnused(int node) {
            if (node != 0 && tree.linksOf(node) == 0 && !isOpen(node)) {
                tree.drop(node);
            }
        }

        private boolean isOpen(int node) {
            for (int i = 0; i < OPENINGS; i++) {
                if (tellers[i] > 0 && nodes[i] == node) {
                    return true;
                }
            }
            return false;
        }

        /** Whether an opening of the pipe may do one of these. */
        boolean hasEnd(int pipe, int mode) {
            for (int i = 0; i < OPENINGS; i++) {
                if (tellers[i] > 0 && pipes[i] == pipe && (modes[i] & mode) != 0) {
                    return true;
                }
            }
            return false;
        }

        int freePipe() {
            for (int i = 0; i < PIPES; i++) {
                if (pipeContexts[i] == NONE) {
                    return i;
                }
            }
            return NONE;
        }

        void startPipe(int pipe, int context) {
            pipeContexts[pipe] = context;
            pipeSizes[pipe] = 0;
        }

        void addByte(int pipe, int value) {
            if (pipeSizes[pipe] < PIPE_BYTES) {
                pipeBytes[pipe * PIPE_BYTES + pipeSizes[pipe]] = value;
                pipeSizes[pipe]++;
            }
        }

        int takeByte(int pipe) {
            int first = pipe * PIPE_BYTES;
            int value = pipeBytes[first];
            for (int i = 1; i < pipeSizes[pipe]; i++) {
                pipeBytes[first + i - 1] = pipeBytes[first + i];
            }
            pipeSizes[pipe]--;
            return value;
        }

        int freeProcess() {
            for (int i = 0; i < PROCESSES; i++) {
                if (processes[i] == NONE) {
                    return i;
                }
            }
            return NONE;
        }

        void startLike(int q, int p) {
            processes[q] = processes[p];
            for (int i = 0; i < HANDLES; i++) {
                int opening = opening(p, i);
                handles[q * HANDLES + i] = opening;
                if (opening != NONE) {
                    tellers[opening]++;
                }
            }
        }

        void stop(int p) {
            for (int i = 0; i < HANDLES; i++) {
                release(p, i);
            }
            processes[p] = NONE;
        }
    }

    /** The acts that come to a node by a path. */
    private static final class PathActs {
        private static final int NAMES = 4;
        private static final int NAME_FACTOR = 100;
        // The least rest of a path with which a walk goes on: one name, or one ahead of the last.
        private static final int TO_THE_END = 1;
        private static final int TO_THE_LAST = 100;

        private final Guard guard;
        private final Journal journal;
        private final Tree tree;
        private final Holdings holdings;
        private int lastName;
        private int walkedNodes;

        PathActs(Guard guard, Journal journal, Holdings holdings) {
            this.guard = guard;
            this.journal = journal;
            this.tree = journal.now;
            this.holdings = holdings;
        }

        static boolean isPath(int path) {
            if (path < 0 || path > HIGHEST_PATH) {
                return false;
            }
            int rest = path;
            for (int i = 0; i < NAMES && rest > 0; i++) {
                if (rest % NAME_FACTOR == 0) {
                    return false;
                }
                rest /= NAME_FACTOR;
            }
            return true;
        }

        private int walk(int p, int path, int least) {
            int at = 0;
            int rest = path;
            walkedNodes = 1;
            for (int i = 0; i < NAMES && rest >= least; i++) {
                if (!tree.isDirectory(at)) {
                    return NO_DIRECTORY;
                }
                if (!guard.grants(holdings.processes[p], tree.contexts[at], DIRECTORY, DIR_SEARCH)) {
                    return DENIED;
                }
                at = tree.nodeNamed(at, rest % NAME_FACTOR);
                if (at == NONE) {
                    return NOT_THERE;
                }
                walkedNodes |= 1 << at;
                rest /= NAME_FACTOR;
            }
            lastName = rest;
            return at;
        }

        /** The directory of a path's place, behind which lastName is its name. */
        private int placeOf(int p, int path) {
            if (path == 0) {
                return EXISTS;
            }
            int directory = walk(p, path, TO_THE_LAST);
            if (directory < 0) {
                return directory;
            }
            if (!tree.isDirectory(directory)) {
                return NO_DIRECTORY;
            }
            return may(p, directory, DIR_SEARCH) ? directory : DENIED;
        }

        /** Whether p may do this to a node, as the file or directory that it is. */
        private boolean may(int p, int node, int permissions) {
            return guard.grants(holdings.processes[p], tree.contexts[node], tree.kinds[node], permissions);
        }

        int look(int p, int path) {
            int node = walk(p, path, TO_THE_END);
            if (node < 0) {
                return node;
            }
            if (!may(p, node, NODE_LOOK)) {
                return DENIED;
            }
            return 2 * tree.sizes[node] + (tree.isDirectory(node) ? 1 : 0) + 100 * tree.linksOf(node);
        }

        int open(int p, int path, int mode) {
            if (path == 0) {
                return openOld(p, 0, mode);
            }
            int directory = placeOf(p, path);
            if (directory < 0) {
                return directory;
            }
            int node = tree.nodeNamed(directory, lastName);
            return node == NONE ? openNew(p, directory, mode) : openOld(p, node, mode);
        }

        private int openOld(int p, int node, int mode) {
            boolean directory = tree.isDirectory(node);
            if (directory && mode != READ) {
                return IS_DIRECTORY;
            }
            int needed = directory ? READ : neededFor(mode);
            if (needed != 0 && !may(p, node, needed)) {
                return DENIED;
            }
            if (!holdings.hasRoomToOpen(p)) {
                return NO_ROOM;
            }
            if ((mode & EMPTY_IT) != 0 && tree.sizes[node] > 0) {
                journal.note(Tree.EMPTIED, node, 0, 0, 0);
            }
            return holdings.open(p, node, NONE, mode);
        }

        private int openNew(int p, int directory, int mode) {
            if ((mode & MAKE_IT) == 0) {
                return NOT_THERE;
            }
            int made = newContext(p, directory, FILE, FILE_CREATE);
            if (made < 0) {
                return made;
            }
            int needed = neededFor(mode);
            if (needed != 0 && !guard.grants(holdings.processes[p], made, FILE, needed)) {
                return DENIED;
            }
            if (!holdings.hasRoomToOpen(p)) {
                return NO_ROOM;
            }
            int node = tree.freeNode();
            journal.note(Tree.FILE_MADE, node, directory, lastName, made);
            return holdings.open(p, node, NONE, mode);
        }

        private static int neededFor(int mode) {
            return (mode & (READ | WRITE | APPEND)) | ((mode & EMPTY_IT) != 0 ? WRITE : 0);
        }

        /** The context of what is to be made in a directory, if p may make it and there is room. */
        private int newContext(int p, int directory, int kind, int create) {
            int own = holdings.processes[p];
            if (!guard.grants(own, tree.contexts[directory], DIRECTORY, DIR_ADD)) {
                return DENIED;
            }
            int made = guard.policy.newContext(own, tree.contexts[directory], kind, tree.contexts[directory]);
            if (made < 0) {
                return made;
            }
            if (!guard.grants(own, made, kind, create)) {
                return DENIED;
            }
            return tree.freeNode() == NONE || tree.isFull(directory) ? NO_ROOM : made;
        }

        int makeDirectory(int p, int path) {
            int directory = placeOf(p, path);
            if (directory < 0) {
                return directory;
            }
            if (tree.nodeNamed(directory, lastName) != NONE) {
                return EXISTS;
            }
            int made = newContext(p, directory, DIRECTORY, DIR_CREATE);
            if (made < 0) {
                return made;
            }
            int node = tree.freeNode();
            journal.note(Tree.DIRECTORY_MADE, node, directory, lastName, made);
            return node;
        }

        int removeDirectory(int p, int path) {
            int directory = placeOf(p, path);
            if (directory < 0) {
                return directory;
            }
            int node = tree.nodeNamed(directory, lastName);
            if (node == NONE) {
                return NOT_THERE;
            }
            if (!tree.isDirectory(node)) {
                return NO_DIRECTORY;
            }
            if (!may(p, directory, DIR_REMOVE) || !may(p, node, DIR_UNLINK)) {
                return DENIED;
            }
            if (tree.sizes[node] > 0) {
                return NOT_EMPTY;
            }
            return removed(directory, node);
        }

        int unlink(int p, int path) {
            int directory = placeOf(p, path);
            if (directory < 0) {
                return directory;
            }
            int node = tree.nodeNamed(directory, lastName);
            if (node == NONE) {
                return NOT_THERE;
            }
            if (tree.isDirectory(node)) {
                return IS_DIRECTORY;
            }
            if (!may(p, directory, DIR_REMOVE) || !may(p, node, FILE_UNLINK)) {
                return DENIED;
            }
            return removed(directory, node);
        }

        private int removed(int directory, int node) {
            journal.note(Tree.UNLINKED, directory, lastName, 0, 0);
            holdings.dropIfUnused(node);
            return 0;
        }

        int link(int p, int path, int to) {
            int node = walk(p, path, TO_THE_END);
            if (node < 0) {
                return node;
            }
            if (tree.isDirectory(node)) {
                return IS_DIRECTORY;
            }
            int directory = placeOf(p, to);
            if (directory < 0) {
                return directory;
            }
            if (tree.nodeNamed(directory, lastName) != NONE) {
                return EXISTS;
            }
            if (!may(p, directory, DIR_ADD) || !may(p, node, FILE_LINK)) {
                return DENIED;
            }
            if (tree.isFull(directory)) {
                return NO_ROOM;
            }
            journal.note(Tree.LINKED, node, directory, lastName, 0);
            return 0;
        }

        int rename(int p, int path, int to) {
            int from = placeOf(p, path);
            if (from < 0) {
                return from;
            }
            int name = lastName;
            int node = tree.nodeNamed(from, name);
            if (node == NONE) {
                return NOT_THERE;
            }
            int into = placeOf(p, to);
            if (into < 0) {
                return into;
            }
            if (tree.nodeNamed(into, lastName) != NONE) {
                return EXISTS;
            }
            if (!may(p, from, DIR_REMOVE) || !may(p, into, DIR_ADD) || !may(p, node, NODE_RENAME)) {
                return DENIED;
            }
            if (into != from && tree.isFull(into)) {
                return NO_ROOM;
            }
            // A directory has one link, so what is below it is reached only through it.
            if (tree.isDirectory(node) && (walkedNodes >> node & 1) == 1) {
                return INSIDE;
            }
            journal.note(Tree.RENAMED, from, name, into, lastName);
            return 0;
        }

        int relabel(int p, int path, int context) {
            int node = walk(p, path, TO_THE_END);
            if (node < 0) {
                return node;
            }
            if (!guard.policy.isValid(context)) {
                return NO_CONTEXT;
            }
            if (!may(p, node, NODE_RELABEL)) {
                return DENIED;
            }
            if (!guard.grants(holdings.processes[p], context, tree.kinds[node], NODE_RELABEL)) {
                return DENIED;
            }
            journal.note(Tree.RELABELLED, node, context, 0, 0);
            return 0;
        }

        int run(int p, int path) {
            int node = walk(p, path, TO_THE_END);
            if (node < 0) {
                return node;
            }
            if (tree.isDirectory(node)) {
                return IS_DIRECTORY;
            }
            if (!may(p, node, READ)) {
                return DENIED;
            }
            int own = holdings.processes[p];
            int made = guard.policy.newContext(own, tree.contexts[node], PROCESS, own);
            if (made < 0) {
                return made;
            }
            if (made != own && !mayBecome(own, made, tree.contexts[node])) {
                return DENIED;
            }
            holdings.processes[p] = made;
            return made % 100;
        }

        private boolean mayBecome(int own, int made, int file) {
            return guard.grants(own, made, PROCESS, PROCESS_BECOME) && guard.grants(made, file, FILE, FILE_ENTRY);
        }
    }

    /** The acts with handles and with processes. */
    private static final class HandleActs {
        private final Guard guard;
        private final Journal journal;
        private final Tree tree;
        private final Holdings holdings;

        HandleActs(Guard guard, Journal journal, Holdings holdings) {
            this.guard = guard;
            this.journal = journal;
            this.tree = journal.now;
            this.holdings = holdings;
        }

        int act(int act, int p, int a, int b) {
            switch (act) {
                case CLOSE:
                    return close(p, a);
                case DUP:
                    return dup(p, a);
                case READ_BYTE:
                    return readByte(p, a);
                case LIST:
                    return list(p, a);
                case EMPTY:
                    return empty(p, a);
                case WRITE_BYTE:
                    return writeByte(p, a, b & 255);
                case SEEK:
                    return goTo(p, a, b);
                case FORK:
                    return fork(p);
                case MAKE_PIPE:
                    return makePipe(p);
                case LEAVE:
                    holdings.stop(p);
                    return 0;
                case SIGNAL:
                    return signal(p, a);
                case TRACE:
                    return guard.grants(holdings.processes[p], holdings.processes[a], PROCESS, PROCESS_TRACE) ? 0 : DENIED;
                default:
                    return change(p, a);
            }
        }

        /** The opening that p's handle tells, if p may use it. */
        private int used(int p, int h) {
            int opening = holdings.opening(p, h);
            if (opening == NONE) {
                return NO_HANDLE;
            }
            int opener = holdings.openers[opening];
            if (opener != holdings.processes[p] && !guard.grants(holdings.processes[p], opener, HANDLE, HANDLE_USE)) {
                return DENIED;
            }
            return opening;
        }

        private int close(int p, int h) {
            if (holdings.opening(p, h) == NONE) {
                return NO_HANDLE;
            }
            holdings.release(p, h);
            return 0;
        }

        private int dup(int p, int h) {
            int opening = used(p, h);
            return opening < 0 ? opening : holdings.tell(p, opening);
        }

        private int readByte(int p, int h) {
            int opening = used(p, h);
            if (opening < 0) {
                return opening;
            }
            if ((holdings.modes[opening] & READ) == 0) {
                return WRONG_MODE;
            }
            int node = holdings.nodes[opening];
            if (node == NONE) {
                return readPipe(p, holdings.pipes[opening]);
            }
            if (tree.isDirectory(node)) {
                return IS_DIRECTORY;
            }
            if (!guard.grants(holdings.processes[p], tree.contexts[node], FILE, READ)) {
                return DENIED;
            }
            int content = nextContent(opening, node);
            return content == NONE ? BEHIND_THE_LAST : content;
        }

        private int readPipe(int p, int pipe) {
            if (!guard.grants(holdings.processes[p], holdings.pipeContexts[pipe], PIPE, READ)) {
                return DENIED;
            }
            if (holdings.pipeSizes[pipe] > 0) {
                return holdings.takeByte(pipe);
            }
            return holdings.hasEnd(pipe, WRITE) ? WAITS : BEHIND_THE_LAST;
        }

        /** NONE at the end: any number from 0 on may be an entry. */
        private int nextContent(int opening, int node) {
            int content = tree.contentAt(node, holdings.places[opening]);
            holdings.places[opening] += content == NONE ? 0 : 1;
            return content;
        }

        private int list(int p, int h) {
            int opening = used(p, h);
            if (opening < 0) {
                return opening;
            }
            int node = holdings.nodes[opening];
            if (node == NONE || !tree.isDirectory(node)) {
                return NO_DIRECTORY;
            }
            if (!guard.grants(holdings.processes[p], tree.contexts[node], DIRECTORY, READ)) {
                return DENIED;
            }
            int entry = nextContent(opening, node);
            return entry == NONE ? BEHIND_THE_LAST : entry % Tree.NODE_FACTOR;
        }

        private int empty(int p, int h) {
            int opening = used(p, h);
            if (opening < 0) {
                return opening;
            }
            int node = holdings.nodes[opening];
            if ((holdings.modes[opening] & WRITE) == 0 || node == NONE) {
                return WRONG_MODE;
            }
            if (!guard.grants(holdings.processes[p], tree.contexts[node], FILE, WRITE)) {
                return DENIED;
            }
            if (tree.sizes[node] > 0) {
                journal.note(Tree.EMPTIED, node, 0, 0, 0);
            }
            return 0;
        }

        private int writeByte(int p, int h, int value) {
            int opening = used(p, h);
            if (opening < 0) {
                return opening;
            }
            int mode = holdings.modes[opening];
            if ((mode & (WRITE | APPEND)) == 0) {
                return WRONG_MODE;
            }
            int node = holdings.nodes[opening];
            if (node == NONE) {
                return writePipe(p, holdings.pipes[opening], value);
            }
            boolean appends = (mode & APPEND) != 0;
            if (!guard.grants(holdings.processes[p], tree.contexts[node], FILE, appends ? APPEND : WRITE)) {
                return DENIED;
            }
            int place = appends ? tree.sizes[node] : holdings.places[opening];
            if (place >= FILE_BYTES) {
                return NO_ROOM;
            }
            journal.note(Tree.WRITTEN, node, place, value, 0);
            holdings.places[opening] += appends ? 0 : 1;
            return 0;
        }

        private int writePipe(int p, int pipe, int value) {
            if (!guard.grants(holdings.processes[p], holdings.pipeContexts[pipe], PIPE, WRITE)) {
                return DENIED;
            }
            if (!holdings.hasEnd(pipe, READ)) {
                return BROKEN;
            }
            if (holdings.pipeSizes[pipe] >= PIPE_BYTES) {
                return WAITS;
            }
            holdings.addByte(pipe, value);
            return 0;
        }

        private int goTo(int p, int h, int at) {
            int opening = used(p, h);
            if (opening < 0) {
                return opening;
            }
            if (holdings.nodes[opening] == NONE) {
                return WRONG_MODE;
            }
            holdings.places[opening] = at;
            return at;
        }

        private int makePipe(int p) {
            int own = holdings.processes[p];
            if (!guard.grants(own, own, PIPE, PIPE_CREATE)) {
                return DENIED;
            }
            int pipe = holdings.freePipe();
            if (pipe == NONE || holdings.openingCount() > OPENINGS - 2 || holdings.handleCount(p) > HANDLES - 2) {
                return NO_ROOM;
            }
            holdings.startPipe(pipe, own);
            int reading = holdings.open(p, NONE, pipe, READ);
            int writing = holdings.open(p, NONE, pipe, WRITE);
            return 10 * writing + reading;
        }

        private int fork(int p) {
            int own = holdings.processes[p];
            if (!guard.grants(own, own, PROCESS, PROCESS_FORK)) {
                return DENIED;
            }
            int q = holdings.freeProcess();
            if (q == NONE) {
                return NO_ROOM;
            }
            holdings.startLike(q, p);
            return q;
        }

        private int signal(int p, int q) {
            if (!guard.grants(holdings.processes[p], holdings.processes[q], PROCESS, PROCESS_SIGNAL)) {
                return DENIED;
            }
            holdings.stop(q);
            return 0;
        }

        private int change(int p, int context) {
            if (!guard.policy.isValid(context)) {
                return NO_CONTEXT;
            }
            if (!guard.grants(holdings.processes[p], context, PROCESS, PROCESS_SWITCH)) {
                return DENIED;
            }
            holdings.processes[p] = context;
            return 0;
        }
    }

    /** Reads a text as events, one after another. */
    private static final class EventReader {
        private static final int END = 0;
        private static final int WRONG = 1;
        private static final int WORD = 2;
        private static final int NUMBER = 3;
        private static final int MOST_DIGITS = 8;
        // Both in the order of the acts.
        private static final String ACTS = "look mkdir rmdir unlink run open link rename relabel close dup read list empty write seek fork pipe leave signal trace switch ";
        private static final String LONE_WORDS = "sync crash label ";
        private static final int[] NUMBERS = {1, 1, 1, 1, 1, 2, 2, 2, 2, 1, 1, 1, 1, 1, 2, 2, 0, 0, 0, 1, 1, 1, 0, 1, 2};

        private final Text text;
        private int place;
        private int next;
        private int kind;
        private int number;
        private long word;
        private int process;
        private int act;
        private int first;
        private int second;

        EventReader(Text text) {
            this.text = text;
        }

        int fault() {
            start();
            for (int i = 0; i <= Text.MOST && kind != END; i++) {
                if (!readEvent()) {
                    return place;
                }
            }
            return NONE;
        }

        void start() {
            next = 0;
            advance();
        }

        /** False at the text's end, and on the token at fault. */
        boolean readEvent() {
            boolean lone = kind != NUMBER;
            process = lone ? NONE : number;
            if (!lone) {
                advance();
            }
            int found = kind == WORD ? Text.wordNumber(lone ? LONE_WORDS : ACTS, word) : NONE;
            if (found == NONE) {
                return false;
            }
            act = lone ? SYNC + found : found;
            first = 0;
            second = 0;
            advance();
            for (int i = 0; i < NUMBERS[act]; i++) {
                if (kind != NUMBER) {
                    return false;
                }
                first = i == 0 ? number : first;
                second = i == 0 ? second : number;
                advance();
            }
            if (kind != ';') {
                return false;
            }
            advance();
            return true;
        }

        private void advance() {
            place = text.behindBlanks(next);
            next = place;
            int sign = text.at(place);
            if (Text.isLetter(sign)) {
                readWord();
            } else if (Text.isDigit(sign)) {
                readNumber();
            } else {
                kind = sign == NONE ? END : sign == ';' ? sign : WRONG;
                next = sign == NONE ? place : place + 1;
            }
        }

        private void readWord() {
            while (next < text.size && Text.isLetter(text.at(next))) {
                next++;
            }
            kind = WORD;
            word = text.packed(place, next);
        }

        private void readNumber() {
            number = 0;
            while (next < text.size && Text.isDigit(text.at(next))) {
                number = number * 10 + text.at(next) - '0';
                next++;
            }
            kind = next - place > MOST_DIGITS ? WRONG : NUMBER;
        }
    }
}
