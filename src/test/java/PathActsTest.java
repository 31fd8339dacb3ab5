import java.util.NoSuchElementException;

/** Promises 9 and 10: onPath and onPaths (Terms 3 and 4). */
public final class PathActsTest {
    private static final Class<IllegalArgumentException> ARGUMENT = IllegalArgumentException.class;
    private static final Due DUE = new Due();
    private static final String HEAD = "type a;type b;type c;role r{a b};user u{r};";
    private static final String FREE = "allow * *:file *;allow * *:dir *;allow * *:process *;allow * *:pipe *;allow * *:handle *;";

    public static void main(String[] args) {
        looks();
        directories();
        unlinks();
        opens();
        openModes();
        roomToOpen();
        links();
        renames();
        relabels();
        runs();
        newContexts();
        denials();
        orderOfQuestions();
        wrongNumbers();
        DUE.finish();
    }

    private static GuardHouse free() {
        return Due.with(HEAD + FREE);
    }

    private static int look(GuardHouse h, int path) {
        return h.onPath(0, 0, path);
    }

    private static int mkdir(GuardHouse h, int path) {
        return h.onPath(0, 1, path);
    }

    private static int rmdir(GuardHouse h, int path) {
        return h.onPath(0, 2, path);
    }

    private static int unlink(GuardHouse h, int path) {
        return h.onPath(0, 3, path);
    }

    private static int run(GuardHouse h, int path) {
        return h.onPath(0, 4, path);
    }

    private static int open(GuardHouse h, int path, int mode) {
        return h.onPaths(0, 0, path, mode);
    }

    private static int link(GuardHouse h, int path, int to) {
        return h.onPaths(0, 1, path, to);
    }

    private static int rename(GuardHouse h, int path, int to) {
        return h.onPaths(0, 2, path, to);
    }

    private static int relabel(GuardHouse h, int path, int context) {
        return h.onPaths(0, 3, path, context);
    }

    /** A file that no handle tells. */
    private static void file(GuardHouse h, int path) {
        DUE.is("a file is made", 0, open(h, path, 8));
        h.onHandle(0, 0, 0);
    }

    private static void looks() {
        GuardHouse h = free();
        DUE.is("the root", 1, look(h, 0));
        mkdir(h, 99);
        DUE.is("an entry", 3, look(h, 0));
        DUE.is("a directory", 101, look(h, 99));
        open(h, 199, 10);
        DUE.is("a file", 100, look(h, 199));
        h.write(0, 0, 5);
        h.write(0, 0, 5);
        link(h, 199, 2);
        DUE.is("two bytes and links", 204, look(h, 199));
        DUE.is("the next node", 3, mkdir(h, 3));
        mkdir(h, 403);
        mkdir(h, 50403);
        mkdir(h, 6050403);
        DUE.is("the fourth", 101, look(h, 6050403));
        DUE.is("not there", GuardHouse.NOT_THERE, look(h, 98));
        DUE.is("no directory", GuardHouse.NO_DIRECTORY, look(h, 102));
        DUE.is("not there ahead of what is behind", GuardHouse.NOT_THERE, look(h, 10198));
    }

    private static void directories() {
        GuardHouse h = free();
        DUE.is("the least node", 1, mkdir(h, 7));
        DUE.is("the next one", 2, mkdir(h, 8));
        DUE.is("a name that is there", GuardHouse.EXISTS, mkdir(h, 7));
        DUE.is("the root", GuardHouse.EXISTS, mkdir(h, 0));
        DUE.is("no place", GuardHouse.NOT_THERE, mkdir(h, 109));
        file(h, 9);
        DUE.is("in a file", GuardHouse.NO_DIRECTORY, mkdir(h, 109));
        DUE.is("below a file", GuardHouse.NO_DIRECTORY, mkdir(h, 10109));
        DUE.is("rmdir of the root", GuardHouse.EXISTS, rmdir(h, 0));
        DUE.is("rmdir of none", GuardHouse.NOT_THERE, rmdir(h, 6));
        DUE.is("rmdir of a file", GuardHouse.NO_DIRECTORY, rmdir(h, 9));
        DUE.is("rmdir in a file", GuardHouse.NO_DIRECTORY, rmdir(h, 109));
        DUE.is("an entry", 4, mkdir(h, 107));
        DUE.is("not empty", GuardHouse.NOT_EMPTY, rmdir(h, 7));
        DUE.is("the inner one", 0, rmdir(h, 107));
        DUE.is("the outer one", 0, rmdir(h, 7));
        DUE.is("it goes", GuardHouse.NONE, h.context(1, 1));
        DUE.is("the first entry goes", 208, h.node(0, 3));
        DUE.is("the least node again", 1, mkdir(h, 7));
        DUE.is("the entry is the last one", 107, h.node(0, 5));
        DUE.is("a handle of it", 0, open(h, 7, 1));
        DUE.is("removed", 0, rmdir(h, 7));
        DUE.is("it stays with a handle", 1, h.node(1, 0));
        DUE.is("without links", 0, h.node(1, 2));
        DUE.is("nothing to list", 256, h.onHandle(0, 3, 0));
        h.onHandle(0, 0, 0);
        DUE.is("it goes with its handle", GuardHouse.NONE, h.context(1, 1));
    }

    private static void unlinks() {
        GuardHouse h = free();
        DUE.is("the root", GuardHouse.EXISTS, unlink(h, 0));
        DUE.is("none", GuardHouse.NOT_THERE, unlink(h, 1));
        file(h, 1);
        mkdir(h, 2);
        DUE.is("a directory", GuardHouse.IS_DIRECTORY, unlink(h, 2));
        DUE.is("in a file", GuardHouse.NO_DIRECTORY, unlink(h, 101));
        link(h, 1, 302);
        DUE.is("one link", 0, unlink(h, 1));
        DUE.is("the other stays", 1, h.node(1, 2));
        DUE.is("the other link", 0, unlink(h, 302));
        DUE.is("it goes", GuardHouse.NONE, h.context(1, 1));
        open(h, 1, 9);
        DUE.is("an open one", 0, unlink(h, 1));
        DUE.is("stays", 0, h.node(1, 2));
        DUE.is("dup", 1, h.onHandle(0, 1, 0));
        h.onHandle(0, 0, 0);
        DUE.is("stays still", 0, h.node(1, 0));
        h.onHandle(0, 0, 1);
        DUE.is("goes with the last handle", GuardHouse.NONE, h.context(1, 1));
        open(h, 1, 8);
        open(h, 1, 8);
        unlink(h, 1);
        h.onHandle(0, 0, 0);
        DUE.is("another opening of it", 0, h.node(1, 0));
        h.alone(0, 2);
        DUE.is("goes with its process", GuardHouse.NONE, h.context(1, 1));
    }

    private static void opens() {
        GuardHouse h = free();
        DUE.is("not there", GuardHouse.NOT_THERE, open(h, 1, 7));
        DUE.is("made", 0, open(h, 1, 10));
        h.write(0, 0, 1);
        DUE.is("deeds", 2, h.about(4));
        DUE.is("opened with 8", 1, open(h, 1, 9));
        DUE.is("not made anew", 1, h.node(1, 1));
        DUE.is("emptied", 2, open(h, 1, 16));
        DUE.is("no bytes", 0, h.node(1, 1));
        DUE.is("a deed", 3, h.about(4));
        DUE.is("emptied once more", 3, open(h, 1, 24));
        DUE.is("no deed", 3, h.about(4));
        DUE.is("made and emptied", 4, open(h, 2, 27));
        DUE.is("one deed", 4, h.about(4));
        DUE.is("in a file", GuardHouse.NO_DIRECTORY, open(h, 101, 8));
        DUE.is("below nothing", GuardHouse.NOT_THERE, open(h, 109, 8));
        DUE.is("the root", 5, open(h, 0, 1));
        DUE.is("lists", 1, h.onHandle(0, 3, 5));
        mkdir(h, 3);
        for (int mode = 0; mode < 32; mode++) {
            int due = mode == 1 ? GuardHouse.NO_ROOM : GuardHouse.IS_DIRECTORY;
            DUE.is("the root with mode " + mode, due, open(h, 0, mode));
            DUE.is("a directory with mode " + mode, due, open(h, 3, mode));
        }
    }

    private static void openModes() {
        for (int mode = 0; mode < 32; mode++) {
            GuardHouse h = free();
            open(h, 1, 10);
            h.write(0, 0, 65);
            h.onHandle(0, 0, 0);
            int questions = h.about(1);
            open(h, 1, mode);
            boolean asks = (mode & 23) != 0;
            DUE.is("questions of mode " + mode, questions + (asks ? 2 : 1), h.about(1));
            DUE.is("bytes", (mode & 16) != 0 ? 0 : 1, h.node(1, 1));
            int read = (mode & 1) == 0 ? GuardHouse.WRONG_MODE : (mode & 16) != 0 ? 256 : 65;
            DUE.is("reads with mode " + mode, read, h.onHandle(0, 2, 0));
            DUE.is("writes with mode " + mode, (mode & 6) == 0 ? GuardHouse.WRONG_MODE : 0, h.write(0, 0, 66));
            DUE.is("empties with mode " + mode, (mode & 2) == 0 ? GuardHouse.WRONG_MODE : 0, h.onHandle(0, 4, 0));
        }
        asked(1, "read");
        asked(2, "write");
        asked(16, "write");
        asked(18, "write");
        asked(4, "append");
        asked(7, "read write append");
        asked(21, "read write append");
    }

    /** Mode needs all of the permissions, of an old and of a new file, and no others. */
    private static void asked(int mode, String permissions) {
        String most = HEAD + "allow a a:dir *;allow a a:file create;audit a a:file {read write append};";
        GuardHouse h = Due.with(most + "allow a a:file {" + permissions + "};");
        file(h, 1);
        DUE.is("old", 0, open(h, 1, mode));
        DUE.is("one record", 1, h.about(0));
        int due = 0;
        for (String permission : permissions.split(" ")) {
            due |= permission.equals("read") ? 1 : permission.equals("write") ? 2 : 4;
        }
        DUE.is("of all", due, h.record(0, 4));
        DUE.is("new", 1, open(h, 2, mode | 8));
        DUE.is("of all", due, h.record(1, 4));
        for (String missing : permissions.split(" ")) {
            String others = (permissions + " look").replace(missing, "");
            GuardHouse less = Due.with(most + "allow a a:file {" + others + "};");
            file(less, 1);
            DUE.is("old without " + missing, GuardHouse.DENIED, open(less, 1, mode));
            DUE.is("new without " + missing, GuardHouse.DENIED, open(less, 2, mode | 8));
            DUE.is("not made", GuardHouse.NONE, less.context(2, 1));
        }
    }

    private static void roomToOpen() {
        GuardHouse h = free();
        for (int i = 0; i < 6; i++) {
            DUE.is("handles", i, open(h, 1, 8));
        }
        DUE.is("six handles", GuardHouse.NO_ROOM, open(h, 1, 8));
        DUE.is("six handles, a new file", GuardHouse.NO_ROOM, open(h, 2, 8));
        DUE.is("it isn't made", GuardHouse.NONE, h.context(2, 1));
        h.onHandle(0, 0, 3);
        DUE.is("the least one", 3, open(h, 1, 8));
        DUE.is("six openings", 6, h.about(5));
        h.alone(0, 0);
        for (int i = 0; i < 6; i++) {
            h.onHandle(1, 0, i);
            DUE.is("another process", i, h.onPaths(1, 0, 1, 8));
        }
        DUE.is("twelve", 12, h.about(5));
        h.alone(1, 0);
        for (int i = 0; i < 4; i++) {
            h.onHandle(2, 0, i);
            DUE.is("a third", i, h.onPaths(2, 0, 1, 8));
        }
        h.onHandle(2, 0, 5);
        DUE.is("16 openings", 16, h.about(5));
        DUE.is("no room", GuardHouse.NO_ROOM, h.onPaths(2, 0, 1, 8));
        DUE.is("nor for the root", GuardHouse.NO_ROOM, h.onPaths(2, 0, 0, 1));
        h.onHandle(0, 0, 0);
        DUE.is("room again", 5, h.onPaths(2, 0, 1, 8));
        fullDirectory();
        allNodes();
    }

    private static void fullDirectory() {
        GuardHouse h = free();
        for (int i = 1; i <= 10; i++) {
            DUE.is("directories", i, mkdir(h, i));
        }
        DUE.is("the eleventh", GuardHouse.NO_ROOM, mkdir(h, 11));
        DUE.is("a file", GuardHouse.NO_ROOM, open(h, 11, 9));
        DUE.is("a name that is there", GuardHouse.EXISTS, mkdir(h, 10));
        open(h, 101, 8);
        DUE.is("a link", GuardHouse.NO_ROOM, link(h, 101, 11));
        DUE.is("renamed into it", GuardHouse.NO_ROOM, rename(h, 101, 11));
        DUE.is("renamed in it", 0, rename(h, 1, 11));
        DUE.is("the last one", 111, h.node(0, 12));
        DUE.is("the first one", 202, h.node(0, 3));
        GuardHouse denied = Due.with(HEAD + "allow a a:dir *;allow a a:file create;");
        for (int i = 1; i <= 10; i++) {
            mkdir(denied, i);
        }
        DUE.is("full, ahead of what is asked of the file", GuardHouse.NO_ROOM, open(denied, 11, 9));
    }

    private static void allNodes() {
        GuardHouse h = free();
        for (int i = 1; i <= 4; i++) {
            mkdir(h, i);
        }
        for (int i = 0; i < 27; i++) {
            mkdir(h, 1 + i / 9 + 100 * (1 + i % 9));
        }
        DUE.is("32 nodes", 1, h.node(31, 0));
        DUE.is("no room for a directory", GuardHouse.NO_ROOM, mkdir(h, 5));
        DUE.is("nor for a file", GuardHouse.NO_ROOM, open(h, 5, 8));
        DUE.is("one goes", 0, rmdir(h, 501));
        DUE.is("its number is free", 9, mkdir(h, 5));
    }

    private static void links() {
        GuardHouse h = free();
        file(h, 1);
        mkdir(h, 2);
        DUE.is("not there", GuardHouse.NOT_THERE, link(h, 3, 4));
        DUE.is("a directory", GuardHouse.IS_DIRECTORY, link(h, 2, 4));
        DUE.is("the root", GuardHouse.IS_DIRECTORY, link(h, 0, 4));
        DUE.is("to the root", GuardHouse.EXISTS, link(h, 1, 0));
        DUE.is("to itself", GuardHouse.EXISTS, link(h, 1, 1));
        DUE.is("to a directory", GuardHouse.EXISTS, link(h, 1, 2));
        DUE.is("into a file", GuardHouse.NO_DIRECTORY, link(h, 1, 101));
        DUE.is("into nothing", GuardHouse.NOT_THERE, link(h, 1, 105));
        DUE.is("into a directory", 0, link(h, 1, 102));
        DUE.is("two links", 2, h.node(1, 2));
        DUE.is("its entry", 101, h.node(2, 3));
        DUE.is("beside it", 0, link(h, 102, 99));
        DUE.is("three links", 3, h.node(1, 2));
        DUE.is("the last entry", 199, h.node(0, 5));
    }

    private static void renames() {
        GuardHouse h = free();
        file(h, 1);
        mkdir(h, 2);
        mkdir(h, 302);
        mkdir(h, 40302);
        DUE.is("the root", GuardHouse.EXISTS, rename(h, 0, 9));
        DUE.is("to the root", GuardHouse.EXISTS, rename(h, 1, 0));
        DUE.is("not there", GuardHouse.NOT_THERE, rename(h, 9, 0));
        DUE.is("to itself", GuardHouse.EXISTS, rename(h, 1, 1));
        DUE.is("to another", GuardHouse.EXISTS, rename(h, 1, 2));
        DUE.is("into a file", GuardHouse.NO_DIRECTORY, rename(h, 2, 101));
        DUE.is("into nothing", GuardHouse.NOT_THERE, rename(h, 1, 109));
        DUE.is("into itself", GuardHouse.INSIDE, rename(h, 2, 902));
        DUE.is("below itself", GuardHouse.INSIDE, rename(h, 2, 90302));
        DUE.is("two below itself", GuardHouse.INSIDE, rename(h, 2, 9040302));
        DUE.is("out of it", 0, rename(h, 302, 3));
        DUE.is("the order", 303, h.node(0, 5));
        DUE.is("into another", 0, rename(h, 2, 503));
        DUE.is("a file", 0, rename(h, 1, 9));
        DUE.is("the same node", 109, h.node(0, 4));
        DUE.is("one link", 1, h.node(1, 2));
    }

    private static void relabels() {
        GuardHouse h = free();
        file(h, 1);
        int deeds = h.about(4);
        DUE.is("a file", 0, relabel(h, 1, 1));
        DUE.is("its context", 1, h.context(1, 1));
        DUE.is("a deed", deeds + 1, h.about(4));
        DUE.is("the same", 0, relabel(h, 1, 1));
        DUE.is("a deed, too", deeds + 2, h.about(4));
        DUE.is("the root", 0, relabel(h, 0, 1));
        DUE.is("not valid", GuardHouse.NO_CONTEXT, relabel(h, 1, 2));
        DUE.is("far off", GuardHouse.NO_CONTEXT, relabel(h, 1, 99999999));
        DUE.is("not there goes first", GuardHouse.NOT_THERE, relabel(h, 2, 2));
        GuardHouse old = Due.with(HEAD + "allow a *:file{create};allow a *:dir *;allow a b:file relabel;");
        file(old, 1);
        DUE.is("not the old one", GuardHouse.DENIED, relabel(old, 1, 1));
        DUE.is("asked of it", 0, old.record(0, 2));
        GuardHouse young = Due.with(HEAD + "allow a *:file{create};allow a *:dir *;allow a a:file relabel;");
        file(young, 1);
        DUE.is("not the new one", GuardHouse.DENIED, relabel(young, 1, 1));
        DUE.is("asked of that", 1, young.record(0, 2));
        DUE.is("no deed", 1, young.about(4));
        DUE.is("a directory's relabel", 0, relabel(young, 0, 1));
    }

    private static void runs() {
        GuardHouse h = Due.with(HEAD + FREE + "move a b:process b;");
        file(h, 1);
        DUE.is("the root", GuardHouse.IS_DIRECTORY, run(h, 0));
        DUE.is("none", GuardHouse.NOT_THERE, run(h, 2));
        DUE.is("without a move", 0, run(h, 1));
        h.label(1, 1);
        DUE.is("with a move", 1, run(h, 1));
        DUE.is("p has it", 1, h.context(0, 0));
        DUE.is("p's own type, not the file's", 1, run(h, 1));
        h.label(1, 0);
        DUE.is("p's own type still", 1, run(h, 1));
        Due.load(h, HEAD + FREE + "move b a:process a;");
        DUE.is("back by a move", 0, run(h, 1));
        DUE.is("p has that", 0, h.context(0, 0));
        String move = HEAD + "allow a *:dir *;allow a a:file create;move a b:process b;";
        ran("the file's read", move + "allow a b:process become;allow b b:file entry;", GuardHouse.DENIED, 0, 1);
        ran("become", move + "allow a b:file read;allow b b:file entry;", GuardHouse.DENIED, 2, 2);
        ran("entry", move + "allow a b:process become;allow a b:file *;", GuardHouse.DENIED, 0, 512);
        ran("all", move + "allow a b:process become;allow a b:file read;allow b b:file entry;", 1, GuardHouse.NONE, 0);
        ran("its own", HEAD + "allow a *:dir *;allow a *:file {create read};", 0, GuardHouse.NONE, 0);
        ran("not valid", HEAD + "allow a *:dir *;allow a *:file {create read};move a b:process c;", GuardHouse.NO_CONTEXT,
                GuardHouse.NONE, 0);
    }

    /** Runs a file with the type b; the record, if kind isn't NONE, is of that class and permission. */
    private static void ran(String what, String policy, int due, int kind, int permission) {
        GuardHouse h = Due.with(policy);
        file(h, 1);
        h.label(1, 1);
        DUE.is("run: " + what, due, run(h, 1));
        DUE.is("the process", Math.max(due, 0), h.context(0, 0));
        DUE.is("records", kind == GuardHouse.NONE ? 0 : 1, h.about(0));
        if (kind != GuardHouse.NONE) {
            DUE.is("its class", kind, h.record(0, 3));
            DUE.is("its permission", permission, h.record(0, 4));
            DUE.is("its source", permission == 512 ? 1 : 0, h.record(0, 1));
            DUE.is("its target", 1, h.record(0, 2));
        }
    }

    private static void newContexts() {
        GuardHouse h = Due.with("type a;type b;type c;role r{a b};role s{a b c};user u{r s};user v{s};" + FREE
                + "move a a:file b;move b b:dir a;move a b:file c;");
        DUE.is("a file by a move", 0, open(h, 1, 8));
        DUE.is("has its type", 1, h.context(1, 1));
        DUE.is("a directory without one", 2, mkdir(h, 2));
        DUE.is("has its directory's type", 0, h.context(2, 1));
        h.label(2, 1);
        DUE.is("not valid", GuardHouse.NO_CONTEXT, open(h, 102, 8));
        DUE.is("of the directory's type", 3, mkdir(h, 202));
        DUE.is("b in b", 1, h.context(3, 1));
        h.switchTo(0, 1101);
        DUE.is("by a move of b", 4, mkdir(h, 302));
        DUE.is("p's user and role", 1100, h.context(4, 1));
        h.switchTo(0, 100);
        DUE.is("valid by another role", 1, open(h, 102, 8));
        DUE.is("p's role", 102, h.context(5, 1));
        h.label(0, 102);
        h.switchTo(0, 0);
        DUE.is("a directory of the root's type", GuardHouse.NO_CONTEXT, mkdir(h, 9));
    }

    /** Each act is denied by the lack of each permission that it asks for. */
    private static void denials() {
        denied("search");
        denied("look");
        GuardHouse h = Due.with(HEAD + "allow a a:dir{search add create};allow a a:file create;");
        file(h, 1);
        mkdir(h, 2);
        DUE.is("dir look", GuardHouse.DENIED, look(h, 2));
        DUE.is("file look", GuardHouse.DENIED, look(h, 1));
        DUE.is("dir remove for a file", GuardHouse.DENIED, unlink(h, 1));
        DUE.is("asked", 8, h.record(2, 4));
        DUE.is("dir remove for a directory", GuardHouse.DENIED, rmdir(h, 2));
        DUE.is("dir read", GuardHouse.DENIED, open(h, 2, 1));
        DUE.is("dir read of the root", GuardHouse.DENIED, open(h, 0, 1));
        DUE.is("file link", GuardHouse.DENIED, link(h, 1, 3));
        DUE.is("asked", 32, h.record(6, 4));
        DUE.is("dir remove for a rename", GuardHouse.DENIED, rename(h, 1, 3));
        DUE.is("asked", 8, h.record(7, 4));
        DUE.is("nothing was done", 2, h.about(4));
        GuardHouse more = Due.with(HEAD + "allow a a:dir{search add create remove};allow a a:file create;");
        file(more, 1);
        mkdir(more, 2);
        DUE.is("file unlink", GuardHouse.DENIED, unlink(more, 1));
        DUE.is("asked", 16, more.record(0, 4));
        DUE.is("dir unlink", GuardHouse.DENIED, rmdir(more, 2));
        DUE.is("asked", 32, more.record(1, 4));
        DUE.is("file rename", GuardHouse.DENIED, rename(more, 1, 3));
        DUE.is("of the file", 0, more.record(2, 3));
        DUE.is("asked", 64, more.record(2, 4));
        DUE.is("dir rename", GuardHouse.DENIED, rename(more, 2, 3));
        DUE.is("of the directory", 1, more.record(3, 3));
        GuardHouse search = Due.with(HEAD + "allow a *:file *;allow a a:dir *;allow a b:dir{search create relabel};");
        mkdir(search, 1);
        search.label(1, 1);
        DUE.is("dir add of the directory", GuardHouse.DENIED, mkdir(search, 101));
        DUE.is("for a file", GuardHouse.DENIED, open(search, 101, 8));
        file(search, 2);
        DUE.is("for a link", GuardHouse.DENIED, link(search, 2, 101));
        DUE.is("for a rename", GuardHouse.DENIED, rename(search, 2, 101));
        DUE.is("asked of it", 1, search.record(3, 2));
        DUE.is("add", 4, search.record(3, 4));
        GuardHouse create = Due.with(HEAD + "allow a *:dir{search add};");
        DUE.is("dir create", GuardHouse.DENIED, mkdir(create, 1));
        DUE.is("asked", 16, create.record(0, 4));
        DUE.is("file create", GuardHouse.DENIED, open(create, 1, 8));
        DUE.is("asked", 8, create.record(1, 4));
        DUE.is("not there", GuardHouse.NOT_THERE, open(create, 1, 1));
    }

    private static void denied(String missing) {
        GuardHouse h = Due.with(HEAD + "allow a a:dir " + (missing.equals("search") ? "look;" : "search;"));
        DUE.is("look of the root without " + missing, missing.equals("look") ? GuardHouse.DENIED : 1, look(h, 0));
        DUE.is("a walk without " + missing, missing.equals("search") ? GuardHouse.DENIED : GuardHouse.NOT_THERE, look(h, 1));
        DUE.is("a place without " + missing, missing.equals("search") ? GuardHouse.DENIED : GuardHouse.NOT_THERE, unlink(h, 1));
    }

    /** Questions of an act, told by the identifiers that they give. */
    private static void orderOfQuestions() {
        GuardHouse h = Due.with("type a;type b;type c;type d;type e;role r{a b c d e};user u{r};" + FREE);
        mkdir(h, 1);
        mkdir(h, 2);
        file(h, 101);
        h.label(1, 1);
        h.label(2, 2);
        h.label(3, 3);
        h.crash(h.about(4));
        int questions = h.about(1);
        DUE.is("rename", 0, rename(h, 101, 102));
        DUE.is("search four times, remove, add, rename", questions + 7, h.about(1));
        DUE.is("the first directory", 2, h.identifier(1));
        DUE.is("the second one", 3, h.identifier(2));
        DUE.is("the file", 4, h.identifier(3));
        DUE.is("link", 0, link(h, 102, 101));
        DUE.is("search four times, add, link", questions + 13, h.about(1));
        DUE.is("unlink", 0, unlink(h, 101));
        DUE.is("search twice, remove, unlink", questions + 17, h.about(1));
        DUE.is("relabel", 0, relabel(h, 102, 4));
        DUE.is("search twice, relabel twice", questions + 21, h.about(1));
        DUE.is("the new context", 5, h.identifier(4));
        DUE.is("mkdir", 4, mkdir(h, 202));
        DUE.is("search twice, add, create", questions + 25, h.about(1));
        DUE.is("look", 101, look(h, 202));
        DUE.is("search twice, look", questions + 28, h.about(1));
        DUE.is("open of the root", 0, open(h, 0, 1));
        DUE.is("read alone", questions + 29, h.about(1));
        DUE.is("rmdir", 0, rmdir(h, 202));
        DUE.is("search twice, remove, unlink", questions + 33, h.about(1));
        DUE.is("open of a new file", 1, open(h, 202, 9));
        DUE.is("search twice, add, create, read", questions + 38, h.about(1));
        DUE.is("run", 0, run(h, 202));
        DUE.is("search twice, read", questions + 41, h.about(1));
    }

    private static void wrongNumbers() {
        GuardHouse none = new GuardHouse();
        DUE.fails("no policy goes first", IllegalStateException.class, () -> none.onPath(9, 9, -1));
        DUE.fails("no policy goes first", IllegalStateException.class, () -> none.onPaths(9, 9, -1, -1));
        GuardHouse h = free();
        for (int kind : new int[] {-1, 5, Integer.MAX_VALUE, Integer.MIN_VALUE}) {
            DUE.fails("kind " + kind, ARGUMENT, () -> h.onPath(0, kind, 1));
        }
        for (int kind : new int[] {-1, 4, 5, Integer.MAX_VALUE, Integer.MIN_VALUE}) {
            DUE.fails("kind " + kind, ARGUMENT, () -> h.onPaths(0, kind, 1, 1));
        }
        for (int path : new int[] {-1, 100, 200, 10000, 10001, 1000001, 1000100, 1000000, 100000000, 101010101,
            Integer.MAX_VALUE, Integer.MIN_VALUE}) {
            for (int kind = 0; kind < 5; kind++) {
                int each = kind;
                DUE.fails("path " + path, ARGUMENT, () -> h.onPath(0, each, path));
                DUE.fails("ahead of no process", ARGUMENT, () -> h.onPath(1, each, path));
                if (kind < 4) {
                    DUE.fails("path " + path, ARGUMENT, () -> h.onPaths(0, each, path, 1));
                }
                if (kind == 1 || kind == 2) {
                    DUE.fails("to " + path, ARGUMENT, () -> h.onPaths(0, each, 1, path));
                }
            }
        }
        DUE.is("the highest path", GuardHouse.NOT_THERE, look(h, 99999999));
        for (int p : new int[] {-1, 8, Integer.MAX_VALUE}) {
            DUE.fails("process " + p, ARGUMENT, () -> h.onPath(p, 0, 0));
            DUE.fails("process " + p, ARGUMENT, () -> h.onPaths(p, 0, 0, 1));
        }
        for (int p = 1; p < 8; p++) {
            int each = p;
            DUE.fails("no process " + p, NoSuchElementException.class, () -> h.onPath(each, 0, 0));
            DUE.fails("no process " + p, NoSuchElementException.class, () -> h.onPaths(each, 0, 0, 1));
        }
        DUE.fails("mode -1", ARGUMENT, () -> h.onPaths(0, 0, 1, -1));
        DUE.fails("mode 32", ARGUMENT, () -> h.onPaths(0, 0, 1, 32));
        DUE.fails("context -1", ARGUMENT, () -> h.onPaths(0, 3, 1, -1));
        DUE.fails("context -1, ahead of no process", ARGUMENT, () -> h.onPaths(1, 3, 1, -1));
        DUE.is("questions of the highest path", 1, h.about(1));
    }
}
