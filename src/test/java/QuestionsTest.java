/** Promises 6, 7, 8, 20 and 21: vector, move, identifier, record and about (Terms 2). */
public final class QuestionsTest {
    private static final Class<IllegalArgumentException> ARGUMENT = IllegalArgumentException.class;
    private static final Class<IllegalStateException> STATE = IllegalStateException.class;
    private static final Due DUE = new Due();
    private static final String HEAD = "attribute x;attribute y;type a,x;type b,x,y;type c;role r{a b c};role s{a b};"
            + "user u{r s};user v{s};";

    public static void main(String[] args) {
        vectors();
        limits();
        precedence();
        wrongContexts();
        movedTypes();
        identifiers();
        caches();
        records();
        manyRecords();
        wrongNumbers();
        DUE.finish();
    }

    private static void vectors() {
        GuardHouse house = Due.with(HEAD + "allow a b:file{read look};allow x b:file write;allow a *:dir search;allow b self:"
                + "process*;allow * y:pipe create;allow c c:handle use;never c a:file read;audit c a:file write;quiet c a:dir *;");
        DUE.is("two rules", 0x103, house.vector(0, 1, 0));
        DUE.is("by an attribute", 2, house.vector(1, 1, 0));
        DUE.is("no rule", 0, house.vector(2, 1, 0));
        DUE.is("another target", 0, house.vector(0, 0, 0));
        DUE.is("all types", 2, house.vector(0, 2, 1));
        DUE.is("self", 31, house.vector(1, 1, 2));
        DUE.is("not self", 0, house.vector(1, 0, 2));
        DUE.is("an attribute as target", 4, house.vector(2, 1, 3));
        DUE.is("not of the attribute", 0, house.vector(2, 0, 3));
        DUE.is("handles", 1, house.vector(2, 2, 4));
        DUE.is("never, audit, quiet allow nothing", 0, house.vector(2, 0, 0) | house.vector(2, 0, 1));
        DUE.is("users and roles don't matter", 0x103, house.vector(1100, 101, 0));
        DUE.is("no questions", 0, house.about(1) + house.about(3) + house.about(7));
        GuardHouse all = Due.with(HEAD + "allow a a:file*;allow a a:dir*;allow a a:process*;allow a a:pipe*;allow a a:handle*;");
        int[] due = {1023, 511, 31, 7, 1};
        String[] names = {"read write append create unlink link rename relabel look entry",
            "read search add remove create unlink rename relabel look", "fork become signal trace switch",
            "read write create", "use"};
        for (int kind = 0; kind < 5; kind++) {
            DUE.is("all of class " + kind, due[kind], all.vector(0, 0, kind));
            String[] each = names[kind].split(" ");
            for (int i = 0; i < each.length; i++) {
                GuardHouse one = Due.with(HEAD + "allow a a:" + PlainRules.CLASSES.get(kind) + " " + each[i] + ";");
                DUE.is(each[i], 1 << i, one.vector(0, 0, kind));
            }
        }
    }

    private static void limit(String condition, int source, int target, boolean holds) {
        GuardHouse house = Due.with(HEAD + "allow * *:file *;limit file{read write}" + condition + ";");
        DUE.is(condition + " " + source + " " + target, holds ? 1023 : 1020, house.vector(source, target, 0));
    }

    private static void limits() {
        limit("u1==u2", 0, 101, true);
        limit("u1==u2", 0, 1100, false);
        limit("u2!=u1", 0, 1100, true);
        limit("r1==r2", 100, 1101, true);
        limit("r2==r1", 0, 100, false);
        limit("r1!=r2", 0, 100, true);
        limit("t1==t2", 1, 101, true);
        limit("t2==t1", 1, 2, false);
        limit("t1!=t2", 1, 2, true);
        limit("t1==a", 0, 2, true);
        limit("t1==a", 2, 0, false);
        limit("t2==a", 2, 0, true);
        limit("t2==a", 0, 2, false);
        limit("t1==x", 1, 2, true);
        limit("t1==y", 0, 2, false);
        limit("t2!=y", 0, 1, false);
        limit("t2!=y", 0, 2, true);
        limit("not t2==y", 0, 1, false);
        GuardHouse house = Due.with(HEAD + "allow * *:dir *;allow * *:file look;limit dir search t1==a;limit dir{search read}t2==b;"
                + "limit file * u1==u2;");
        DUE.is("both hold", 511, house.vector(0, 1, 1));
        DUE.is("one holds", 508, house.vector(0, 0, 1));
        DUE.is("the other holds", 509, house.vector(1, 1, 1));
        DUE.is("none holds", 508, house.vector(1, 0, 1));
        DUE.is("another class", 256, house.vector(1, 0, 0));
        GuardHouse late = Due.with("attribute w;type a;limit file * t1==w;type b,w;role r{a b};user u{r};allow * *:file *;");
        DUE.is("an attribute means types behind it, too", 1023, late.vector(1, 0, 0));
        DUE.is("not others", 0, late.vector(0, 0, 0));
    }

    private static void precedence() {
        for (int i = 0; i < 8; i++) {
            boolean p = (i & 1) != 0;
            boolean q = (i & 2) != 0;
            boolean s = (i & 4) != 0;
            String a = p ? "u1==u2" : "u1!=u2";
            String b = q ? "t1==a" : "t1!=a";
            String c = s ? "t2==x" : "t2!=x";
            limit(a + " or " + b + " and " + c, 0, 1, p || (q && s));
            limit(a + " and " + b + " or " + c, 0, 1, (p && q) || s);
            limit("(" + a + " or " + b + ") and " + c, 0, 1, (p || q) && s);
            limit("not " + a + " and " + b, 0, 1, !p && q);
            limit("not " + a + " or " + b, 0, 1, !p || q);
            limit("not (" + a + " and " + b + ")", 0, 1, !(p && q));
            limit(a + " and not (" + b + " or not " + c + ")", 0, 1, p && !(q || !s));
            limit("not not " + a + " and not " + b + " and " + c, 0, 1, p && !q && s);
            limit(a + " or (" + b + " and (not " + c + " or " + a + "))", 0, 1, p || (q && (!s || p)));
        }
    }

    private static void wrongContexts() {
        GuardHouse house = new GuardHouse();
        DUE.fails("no policy", STATE, () -> house.vector(-1, 0, 0));
        Due.load(house, HEAD);
        for (int wrong : new int[] {-1, 3, 10, 102, 99, 200, 900, 1000, 1002, 1102, 2000, 2100, Integer.MAX_VALUE, Integer.MIN_VALUE}) {
            DUE.fails("source " + wrong, ARGUMENT, () -> house.vector(wrong, 0, 0));
            DUE.fails("target " + wrong, ARGUMENT, () -> house.vector(0, wrong, 0));
        }
        DUE.fails("class -1", ARGUMENT, () -> house.vector(0, 0, -1));
        DUE.fails("class 5", ARGUMENT, () -> house.vector(0, 0, 5));
        DUE.is("the last ones", 0, house.vector(1101, 2, 4));
    }

    private static void movedTypes() {
        GuardHouse house = new GuardHouse();
        DUE.fails("no policy", STATE, () -> house.move(-1, 0, 0));
        Due.load(house, HEAD + "move a b:file c;move a b:dir b;move b a:process a;move a b:file c;move c c:handle b;");
        DUE.is("a move", 2, house.move(0, 1, 0));
        DUE.is("of another class", 1, house.move(0, 1, 1));
        DUE.is("of others", 0, house.move(1, 0, 2));
        DUE.is("of handles", 1, house.move(2, 2, 4));
        DUE.is("none", GuardHouse.NONE, house.move(0, 1, 2));
        DUE.is("none of these", GuardHouse.NONE, house.move(1, 0, 0));
        for (int wrong : new int[] {-1, 3, 100}) {
            DUE.fails("source", ARGUMENT, () -> house.move(wrong, 0, 0));
            DUE.fails("target", ARGUMENT, () -> house.move(0, wrong, 0));
        }
        DUE.fails("class -1", ARGUMENT, () -> house.move(0, 0, -1));
        DUE.fails("class 5", ARGUMENT, () -> house.move(0, 0, 5));
    }

    private static void identifiers() {
        GuardHouse house = new GuardHouse();
        DUE.is("without a policy", GuardHouse.NONE, house.identifier(0));
        DUE.fails("below 0", ARGUMENT, () -> house.identifier(-1));
        Due.load(house, HEAD + "allow * *:process *;");
        DUE.is("none yet", GuardHouse.NONE, house.identifier(0));
        DUE.is("to c", 0, house.switchTo(0, 2));
        DUE.is("the source first", 1, house.identifier(0));
        DUE.is("then the target", 2, house.identifier(2));
        DUE.is("to b by s", 0, house.switchTo(0, 101));
        DUE.is("a third", 3, house.identifier(101));
        DUE.is("not its type's", GuardHouse.NONE, house.identifier(1));
        DUE.is("three", 3, house.about(7));
        DUE.is("a large number", GuardHouse.NONE, house.identifier(Integer.MAX_VALUE));
        house.crash(0);
        Due.load(house, HEAD);
        DUE.is("it stays", 3, house.identifier(101));
        DUE.is("to what is denied", GuardHouse.DENIED, house.switchTo(0, 1));
        DUE.is("a fourth, though denied", 4, house.identifier(1));
        DUE.is("no context", GuardHouse.NO_CONTEXT, house.switchTo(0, 3));
        DUE.is("that is no question", GuardHouse.NONE, house.identifier(3));
    }

    private static void caches() {
        GuardHouse house = Due.with("type a;type b;type c;type d;type e;type f;type g;role r{a b c d e f g};user u{r};"
                + "allow a *:process{trace fork};allow * a:process *;quiet * *:process *;");
        DUE.is("none", 0, house.about(1) + house.about(2) + house.about(3));
        house.alone(0, 0);
        about(house, 1, 0, 1);
        house.onProcess(0, 1, 1);
        about(house, 2, 1, 1);
        for (int type = 1; type < 6; type++) {
            house.switchTo(0, type);
            about(house, 2 + type, 1, 1 + type);
        }
        house.onProcess(0, 1, 0);
        about(house, 8, 2, 6);
        house.switchTo(0, 6);
        about(house, 9, 2, 6);
        house.switchTo(0, 1);
        about(house, 10, 3, 6);
        house.onProcess(0, 1, 0);
        about(house, 11, 3, 6);
        house.switchTo(0, 2);
        about(house, 12, 4, 6);
        house.switchTo(0, 1);
        about(house, 13, 4, 6);
        house.crash(0);
        about(house, 13, 4, 0);
        house.onProcess(0, 1, 0);
        about(house, 14, 4, 1);
        house.load();
        about(house, 14, 4, 0);
        GuardHouse other = Due.with(HEAD + "allow * *:process *;");
        other.switchTo(0, 1);
        other.switchTo(0, 0);
        about(other, 2, 0, 2);
        other.switchTo(0, 0);
        about(other, 3, 0, 3);
        other.switchTo(0, 1);
        about(other, 4, 1, 3);
    }

    private static void about(GuardHouse house, int questions, int hits, int kept) {
        DUE.is("questions", questions, house.about(1));
        DUE.is("hits of question " + questions, hits, house.about(2));
        DUE.is("kept at question " + questions, kept, house.about(3));
    }

    private static void record(GuardHouse house, int i, int... due) {
        for (int what = 0; what < due.length; what++) {
            DUE.is("record(" + i + ", " + what + ")", due[what], house.record(i, what));
        }
    }

    private static void records() {
        GuardHouse house = Due.with(HEAD + "allow a a:dir *;allow a a:file{create read write};allow a *:process switch;"
                + "allow b a:process *;audit a a:file write;audit a a:process fork;quiet a a:file append;quiet a a:process trace;");
        DUE.is("makes and reads", 0, house.onPaths(0, 0, 1, 9));
        DUE.is("no record", 0, house.about(0));
        DUE.is("reads and writes", 1, house.onPaths(0, 0, 1, 3));
        DUE.is("one is audited", 1, house.about(0));
        record(house, 0, 1, 0, 0, 0, 3);
        DUE.is("appends", GuardHouse.DENIED, house.onPaths(0, 0, 1, 4));
        DUE.is("quiet", 1, house.about(0));
        DUE.is("writes and appends", GuardHouse.DENIED, house.onPaths(0, 0, 1, 6));
        DUE.is("quiet, though one is audited", 1, house.about(0));
        DUE.is("traces", GuardHouse.DENIED, house.onProcess(0, 1, 0));
        DUE.is("quiet, too", 1, house.about(0));
        DUE.is("forks", GuardHouse.DENIED, house.alone(0, 0));
        record(house, 1, 0, 0, 0, 2, 1);
        DUE.is("looks", GuardHouse.DENIED, house.onPath(0, 0, 1));
        record(house, 2, 0, 0, 0, 0, 256);
        DUE.is("becomes b", 0, house.switchTo(0, 101));
        DUE.is("uses a handle of a", GuardHouse.DENIED, house.onHandle(0, 2, 0));
        record(house, 3, 0, 101, 0, 4, 1);
        DUE.is("four", 4, house.about(0));
        GuardHouse mixed = Due.with(HEAD + "allow a a:dir *;allow a a:file{create};quiet a a:file read;");
        DUE.is("reads and writes", GuardHouse.DENIED, mixed.onPaths(0, 0, 1, 11));
        record(mixed, 0, 0, 0, 0, 0, 3);
        DUE.is("reads", GuardHouse.DENIED, mixed.onPaths(0, 0, 1, 9));
        DUE.is("quiet", 1, mixed.about(0));
    }

    private static void manyRecords() {
        GuardHouse house = Due.with("type a;role r{a};user u{r};allow a a:process trace;audit a a:process *;");
        for (int i = 0; i < 25; i++) {
            DUE.is("traces or signals", i % 3 == 0 ? 0 : GuardHouse.DENIED, house.onProcess(0, i % 3 == 0 ? 1 : 0, 0));
            DUE.is("records", i + 1, house.about(0));
            DUE.is("the last one", i % 3 == 0 ? 8 : 4, house.record(Math.min(i, 19), 4));
            int behind = Math.min(i, 19) + 1;
            DUE.fails("none behind it", IndexOutOfBoundsException.class, () -> house.record(behind, 0));
        }
        for (int i = 0; i < 20; i++) {
            record(house, i, (i + 5) % 3 == 0 ? 1 : 0, 0, 0, 2, (i + 5) % 3 == 0 ? 8 : 4);
        }
        house.crash(0);
        record(house, 19, 1, 0, 0, 2, 8);
    }

    private static void wrongNumbers() {
        GuardHouse house = Due.with("type a;role r{a};user u{r};");
        DUE.fails("no record", IndexOutOfBoundsException.class, () -> house.record(0, 0));
        DUE.fails("no record goes first", IndexOutOfBoundsException.class, () -> house.record(0, 9));
        house.alone(0, 0);
        DUE.is("a record", 0, house.record(0, 0));
        DUE.fails("what -1", ARGUMENT, () -> house.record(0, -1));
        DUE.fails("what 5", ARGUMENT, () -> house.record(0, 5));
        DUE.fails("record -1", IndexOutOfBoundsException.class, () -> house.record(-1, 0));
        DUE.fails("record 1", IndexOutOfBoundsException.class, () -> house.record(1, 5));
        DUE.fails("about -1", ARGUMENT, () -> house.about(-1));
        DUE.fails("about 8", ARGUMENT, () -> house.about(8));
    }
}
