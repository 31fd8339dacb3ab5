import java.util.NoSuchElementException;

/** Promises 11, 12 and 13: onHandle, write and seek (Terms 4). */
public final class HandleActsTest {
    private static final Class<IllegalArgumentException> ARGUMENT = IllegalArgumentException.class;
    private static final Due DUE = new Due();
    private static final String HEAD = "type a;type b;role r{a b};user u{r};";
    private static final String FREE = "allow * *:file *;allow * *:dir *;allow * *:process *;allow * *:pipe *;";

    public static void main(String[] args) {
        closes();
        dups();
        readsAndWrites();
        appends();
        fullFiles();
        lists();
        listsNamesOfAllNodes();
        empties();
        seeks();
        pipes();
        uses();
        denials();
        wrongNumbers();
        DUE.finish();
    }

    private static GuardHouse free() {
        return Due.with(HEAD + FREE + "allow * *:handle *;");
    }

    private static int close(GuardHouse h, int handle) {
        return h.onHandle(0, 0, handle);
    }

    private static int dup(GuardHouse h, int handle) {
        return h.onHandle(0, 1, handle);
    }

    private static int read(GuardHouse h, int handle) {
        return h.onHandle(0, 2, handle);
    }

    private static int list(GuardHouse h, int handle) {
        return h.onHandle(0, 3, handle);
    }

    private static int empty(GuardHouse h, int handle) {
        return h.onHandle(0, 4, handle);
    }

    private static int open(GuardHouse h, int path, int mode) {
        return h.onPaths(0, 0, path, mode);
    }

    private static void closes() {
        GuardHouse h = free();
        DUE.is("none", GuardHouse.NO_HANDLE, close(h, 0));
        open(h, 1, 9);
        int questions = h.about(1);
        DUE.is("closed", 0, close(h, 0));
        DUE.is("it asks nothing", questions, h.about(1));
        DUE.is("no opening", 0, h.about(5));
        DUE.is("closed already", GuardHouse.NO_HANDLE, close(h, 0));
        DUE.is("the file stays", 0, h.node(1, 0));
    }

    private static void dups() {
        GuardHouse h = free();
        DUE.is("none", GuardHouse.NO_HANDLE, dup(h, 3));
        open(h, 1, 11);
        h.write(0, 0, 1);
        h.write(0, 0, 2);
        h.seek(0, 0, 0);
        DUE.is("the least", 1, dup(h, 0));
        DUE.is("one opening", 1, h.about(5));
        DUE.is("one place", 1, read(h, 1));
        DUE.is("for both", 2, read(h, 0));
        for (int i = 2; i < 6; i++) {
            DUE.is("more", i, dup(h, 0));
        }
        DUE.is("six", GuardHouse.NO_ROOM, dup(h, 0));
        close(h, 0);
        DUE.is("the opening stays", 1, h.about(5));
        DUE.is("the least again", 0, dup(h, 5));
        for (int i = 0; i < 6; i++) {
            DUE.is("openings", 1, h.about(5));
            close(h, i);
        }
        DUE.is("it goes with the last one", 0, h.about(5));
    }

    private static void readsAndWrites() {
        GuardHouse h = free();
        open(h, 1, 11);
        for (int b : new int[] {0, 255, 256, -1, 0x1234, Integer.MIN_VALUE}) {
            DUE.is("written", 0, h.write(0, 0, b));
        }
        int[] due = {0, 255, 0, 255, 0x34, 0};
        for (int i = 0; i < due.length; i++) {
            DUE.is("a byte", due[i], h.node(1, 3 + i));
        }
        DUE.is("at the end", 256, read(h, 0));
        DUE.is("another opening", 1, open(h, 1, 1));
        for (int b : due) {
            DUE.is("read", b, read(h, 1));
        }
        DUE.is("none there", 256, read(h, 1));
        DUE.is("still none", 256, read(h, 1));
        h.write(0, 0, 9);
        DUE.is("the place stayed", 9, read(h, 1));
        DUE.is("mode 1 can't write", GuardHouse.WRONG_MODE, h.write(0, 1, 1));
        h.seek(0, 0, 1);
        h.write(0, 0, 77);
        DUE.is("written over", 77, h.node(1, 4));
        DUE.is("as many", 7, h.node(1, 1));
        DUE.is("the next one is read", 0, read(h, 0));
        h.seek(0, 0, 10);
        DUE.is("behind the end", 256, read(h, 0));
        h.write(0, 0, 8);
        DUE.is("eleven bytes", 11, h.node(1, 1));
        DUE.is("between", 0, h.node(1, 10) + h.node(1, 11) + h.node(1, 12));
        DUE.is("the byte", 8, h.node(1, 13));
        h.onHandle(0, 4, 0);
        h.write(0, 0, 6);
        DUE.is("bytes that were there are 0", 0, h.node(1, 3) + h.node(1, 4) + h.node(1, 5) + h.node(1, 13));
        DUE.is("twelve", 12, h.node(1, 1));
        DUE.is("mode 0", 2, open(h, 1, 0));
        DUE.is("reads nothing", GuardHouse.WRONG_MODE, read(h, 2));
        DUE.is("writes nothing", GuardHouse.WRONG_MODE, h.write(0, 2, 1));
        open(h, 0, 1);
        DUE.is("a directory", GuardHouse.IS_DIRECTORY, read(h, 3));
        DUE.is("can't be written", GuardHouse.WRONG_MODE, h.write(0, 3, 1));
        DUE.is("none", GuardHouse.NO_HANDLE, read(h, 5));
        DUE.is("none", GuardHouse.NO_HANDLE, h.write(0, 5, 1));
    }

    private static void appends() {
        GuardHouse h = free();
        open(h, 1, 13);
        h.write(0, 0, 1);
        h.write(0, 0, 2);
        DUE.is("the place stays", 1, read(h, 0));
        h.write(0, 0, 3);
        DUE.is("at the end", 3, h.node(1, 5));
        DUE.is("the place goes on", 2, read(h, 0));
        open(h, 1, 6);
        h.write(0, 1, 4);
        DUE.is("appends, though it may write", 4, h.node(1, 6));
        h.seek(0, 1, 0);
        h.write(0, 1, 5);
        DUE.is("wherever its place is", 5, h.node(1, 7));
    }

    private static void fullFiles() {
        GuardHouse h = free();
        open(h, 1, 10);
        open(h, 1, 4);
        for (int i = 0; i < 24; i++) {
            DUE.is("written", 0, h.write(0, 0, i));
        }
        int deeds = h.about(4);
        DUE.is("25 bytes", GuardHouse.NO_ROOM, h.write(0, 0, 1));
        DUE.is("25 bytes appended", GuardHouse.NO_ROOM, h.write(0, 1, 1));
        h.seek(0, 0, 24);
        DUE.is("at place 24", GuardHouse.NO_ROOM, h.write(0, 0, 1));
        DUE.is("no deed", deeds, h.about(4));
        h.seek(0, 0, 23);
        DUE.is("the last byte", 0, h.write(0, 0, 99));
        DUE.is("24 bytes", 24, h.node(1, 1));
        DUE.is("it", 99, h.node(1, 26));
        open(h, 2, 10);
        h.seek(0, 2, 23);
        DUE.is("at once", 0, h.write(0, 2, 7));
        DUE.is("24 bytes", 24, h.node(2, 1));
        h.onHandle(0, 4, 2);
        h.seek(0, 2, 24);
        DUE.is("an empty file at 24", GuardHouse.NO_ROOM, h.write(0, 2, 7));
    }

    private static void lists() {
        GuardHouse h = free();
        h.onPath(0, 1, 5);
        h.onPath(0, 1, 99);
        open(h, 0, 1);
        DUE.is("the first", 5, list(h, 0));
        DUE.is("the second", 99, list(h, 0));
        DUE.is("behind the last", 256, list(h, 0));
        h.onPath(0, 1, 3);
        DUE.is("a new one", 3, list(h, 0));
        h.onPath(0, 2, 5);
        DUE.is("fewer", 256, list(h, 0));
        h.seek(0, 0, 1);
        DUE.is("from a place", 3, list(h, 0));
        open(h, 7, 9);
        DUE.is("a file", GuardHouse.NO_DIRECTORY, list(h, 1));
        h.alone(0, 1);
        DUE.is("a pipe", GuardHouse.NO_DIRECTORY, list(h, 2));
        DUE.is("none", GuardHouse.NO_HANDLE, list(h, 5));
    }

    /** No node's number may turn a name into another answer, such as that behind the last one. */
    private static void listsNamesOfAllNodes() {
        for (int node = 1; node < 32; node++) {
            GuardHouse h = free();
            for (int i = 1; i < node; i++) {
                DUE.is("ahead of it", i, h.onPath(0, 1, i < 10 ? i : i / 10 + 100 * i));
            }
            DUE.is("the node", node, h.onPath(0, 1, 10));
            int last = h.node(0, 1) - 1;
            open(h, 0, 1);
            for (int name = 11; name < 100; name++) {
                h.onPaths(0, 2, name - 1, name);
                h.seek(0, 0, last);
                DUE.is("name " + name + " of node " + node, name, list(h, 0));
                DUE.is("behind name " + name + " of node " + node, 256, list(h, 0));
            }
        }
    }

    private static void empties() {
        GuardHouse h = free();
        open(h, 1, 10);
        h.write(0, 0, 1);
        int deeds = h.about(4);
        DUE.is("emptied", 0, empty(h, 0));
        DUE.is("no bytes", 0, h.node(1, 1));
        DUE.is("a deed", deeds + 1, h.about(4));
        DUE.is("once more", 0, empty(h, 0));
        DUE.is("no deed", deeds + 1, h.about(4));
        DUE.is("mode 1", 1, open(h, 1, 1));
        DUE.is("may not write", GuardHouse.WRONG_MODE, empty(h, 1));
        DUE.is("mode 4", 2, open(h, 1, 4));
        DUE.is("may only append", GuardHouse.WRONG_MODE, empty(h, 2));
        open(h, 0, 1);
        DUE.is("a directory", GuardHouse.WRONG_MODE, empty(h, 3));
        DUE.is("a pipe", 54, h.alone(0, 1));
        DUE.is("its reading end", GuardHouse.WRONG_MODE, empty(h, 4));
        DUE.is("its writing end", GuardHouse.WRONG_MODE, empty(h, 5));
        close(h, 5);
        DUE.is("none", GuardHouse.NO_HANDLE, empty(h, 5));
    }

    private static void seeks() {
        GuardHouse h = free();
        open(h, 1, 9);
        for (int at = 0; at <= 24; at++) {
            DUE.is("the place", at, h.seek(0, 0, at));
        }
        DUE.fails("-1", ARGUMENT, () -> h.seek(0, 0, -1));
        DUE.fails("25", ARGUMENT, () -> h.seek(0, 0, 25));
        DUE.fails("25, ahead of no handle", ARGUMENT, () -> h.seek(0, 1, 25));
        DUE.fails("25, ahead of no process", ARGUMENT, () -> h.seek(1, 0, 25));
        DUE.is("none", GuardHouse.NO_HANDLE, h.seek(0, 1, 24));
        DUE.is("a pipe", 21, h.alone(0, 1));
        DUE.is("its reading end", GuardHouse.WRONG_MODE, h.seek(0, 1, 0));
        DUE.is("its writing end", GuardHouse.WRONG_MODE, h.seek(0, 2, 0));
        open(h, 1, 0);
        DUE.is("mode 0", 3, h.seek(0, 3, 3));
    }

    private static void pipes() {
        GuardHouse h = free();
        DUE.is("a pipe", 10, h.alone(0, 1));
        DUE.is("nothing yet", GuardHouse.WAITS, read(h, 0));
        DUE.is("the reading end", GuardHouse.WRONG_MODE, h.write(0, 0, 1));
        DUE.is("the writing end", GuardHouse.WRONG_MODE, read(h, 1));
        for (int i = 0; i < 8; i++) {
            DUE.is("written", 0, h.write(0, 1, 250 + i));
        }
        DUE.is("full", GuardHouse.WAITS, h.write(0, 1, 1));
        DUE.is("the first byte", 250, read(h, 0));
        DUE.is("room for one", 0, h.write(0, 1, 9));
        DUE.is("full again", GuardHouse.WAITS, h.write(0, 1, 1));
        for (int due : new int[] {251, 252, 253, 254, 255, 0, 1, 9}) {
            DUE.is("in order", due, read(h, 0));
        }
        DUE.is("no deeds", 0, h.about(4));
        DUE.is("empty", GuardHouse.WAITS, read(h, 0));
        h.write(0, 1, 3);
        dup(h, 1);
        close(h, 1);
        DUE.is("a byte", 3, read(h, 0));
        DUE.is("there is a writer", GuardHouse.WAITS, read(h, 0));
        h.write(0, 2, 4);
        close(h, 2);
        DUE.is("what was written stays", 4, read(h, 0));
        DUE.is("no writer", 256, read(h, 0));
        DUE.is("the pipe stays", 1, h.about(6));
        close(h, 0);
        DUE.is("the pipe goes", 0, h.about(6));
        h.alone(0, 1);
        h.write(0, 1, 5);
        close(h, 0);
        close(h, 1);
        DUE.is("the pipe goes", 0, h.about(6));
        DUE.is("another pipe", 10, h.alone(0, 1));
        DUE.is("without old bytes", GuardHouse.WAITS, read(h, 0));
        for (int i = 0; i < 8; i++) {
            h.write(0, 1, i);
        }
        close(h, 0);
        DUE.is("no reader goes ahead of full", GuardHouse.BROKEN, h.write(0, 1, 1));
    }

    private static void uses() {
        GuardHouse h = Due.with(HEAD + FREE + "allow a b:handle use;");
        open(h, 1, 11);
        h.alone(0, 1);
        open(h, 0, 1);
        int questions = h.about(1);
        read(h, 0);
        DUE.is("its own opening: read alone", questions + 1, h.about(1));
        h.switchTo(0, 1);
        questions = h.about(1);
        for (int kind = 1; kind < 5; kind++) {
            DUE.is("a handle of a, used by b", GuardHouse.DENIED, h.onHandle(0, kind, 0));
        }
        DUE.is("write", GuardHouse.DENIED, h.write(0, 0, 1));
        DUE.is("seek", GuardHouse.DENIED, h.seek(0, 0, 1));
        DUE.is("a pipe", GuardHouse.DENIED, h.write(0, 2, 1));
        DUE.is("seek of a pipe, ahead of its mode", GuardHouse.DENIED, h.seek(0, 2, 1));
        DUE.is("a directory", GuardHouse.DENIED, list(h, 3));
        DUE.is("a question each", questions + 9, h.about(1));
        DUE.is("of handles", 4, h.record(8, 3));
        DUE.is("by b", 1, h.record(8, 1));
        DUE.is("of a", 0, h.record(8, 2));
        DUE.is("none is no question", GuardHouse.NO_HANDLE, read(h, 4));
        DUE.is("close asks nothing", 0, close(h, 3));
        DUE.is("a handle of b", 3, open(h, 1, 11));
        h.switchTo(0, 0);
        questions = h.about(1);
        DUE.is("used by a", 0, h.write(0, 3, 1));
        DUE.is("use and write", questions + 2, h.about(1));
        DUE.is("dup", 4, dup(h, 3));
        h.switchTo(0, 1);
        DUE.is("its opening is b's still", 0, h.write(0, 4, 1));
    }

    private static void denials() {
        String head = HEAD + "allow a *:dir *;allow a *:pipe create;allow a a:file *;allow a b:file ";
        int[] kinds = {2, 4};
        String[] missing = {"read", "write"};
        for (int i = 0; i < 2; i++) {
            GuardHouse h = Due.with(head + "{append look " + missing[1 - i] + "};");
            open(h, 1, 11);
            h.label(1, 1);
            DUE.is(missing[i], GuardHouse.DENIED, h.onHandle(0, kinds[i], 0));
            DUE.is("the other", i == 1 ? 256 : 0, h.onHandle(0, kinds[1 - i], 0));
        }
        GuardHouse h = Due.with(head + "append;");
        open(h, 1, 14);
        open(h, 1, 2);
        h.label(1, 1);
        DUE.is("append", 0, h.write(0, 0, 1));
        DUE.is("write", GuardHouse.DENIED, h.write(0, 1, 1));
        DUE.is("asked for write", 2, h.record(0, 4));
        GuardHouse other = Due.with(head + "write;");
        open(other, 1, 14);
        open(other, 1, 2);
        other.label(1, 1);
        DUE.is("append", GuardHouse.DENIED, other.write(0, 0, 1));
        DUE.is("asked for append", 4, other.record(0, 4));
        DUE.is("write", 0, other.write(0, 1, 1));
        DUE.is("a pipe", 32, other.alone(0, 1));
        DUE.is("pipe write", GuardHouse.DENIED, other.write(0, 3, 1));
        DUE.is("pipe read", GuardHouse.DENIED, read(other, 2));
        DUE.is("of pipes", 3, other.record(2, 3));
        GuardHouse list = Due.with(HEAD + "allow a a:dir *;");
        open(list, 0, 1);
        list.label(0, 1);
        DUE.is("dir read", GuardHouse.DENIED, list(list, 0));
    }

    private static void wrongNumbers() {
        GuardHouse none = new GuardHouse();
        DUE.fails("no policy goes first", IllegalStateException.class, () -> none.onHandle(9, 9, 9));
        DUE.fails("no policy goes first", IllegalStateException.class, () -> none.write(9, 9, 9));
        DUE.fails("no policy goes first", IllegalStateException.class, () -> none.seek(9, 9, 99));
        GuardHouse h = free();
        open(h, 1, 11);
        for (int kind : new int[] {-1, 5, Integer.MIN_VALUE, Integer.MAX_VALUE}) {
            DUE.fails("kind " + kind, ARGUMENT, () -> h.onHandle(0, kind, 0));
        }
        for (int wrong : new int[] {-1, 6, 8, Integer.MIN_VALUE, Integer.MAX_VALUE}) {
            for (int kind = 0; kind < 5; kind++) {
                int each = kind;
                DUE.fails("handle " + wrong, ARGUMENT, () -> h.onHandle(0, each, wrong));
                DUE.fails("handle " + wrong + ", ahead of no process", ARGUMENT, () -> h.onHandle(3, each, wrong));
            }
            DUE.fails("handle " + wrong, ARGUMENT, () -> h.write(0, wrong, 1));
            DUE.fails("handle " + wrong, ARGUMENT, () -> h.seek(0, wrong, 1));
            if (wrong != 6) {
                DUE.fails("process " + wrong, ARGUMENT, () -> h.onHandle(wrong, 0, 0));
                DUE.fails("process " + wrong, ARGUMENT, () -> h.write(wrong, 0, 0));
                DUE.fails("process " + wrong, ARGUMENT, () -> h.seek(wrong, 0, 0));
            }
        }
        DUE.fails("no process", NoSuchElementException.class, () -> h.onHandle(7, 0, 0));
        DUE.fails("no process", NoSuchElementException.class, () -> h.write(1, 0, 0));
        DUE.fails("no process", NoSuchElementException.class, () -> h.seek(1, 0, 0));
        DUE.is("nothing was done", 1, h.about(5));
    }
}
