/** The edges of promise 9, sentence by sentence: onPath, with paths, walks and places. */
public final class Edges09Test {
    private static final Sentences S = new Sentences();
    private static final String NAME = "Promise 9: onPath";
    private static final String FREE = Sentences.FREE;
    /** Valid are 0, 1, 1000, 1001, 1100, 1101 and 1102. */
    private static final String ROLES = "type a;type b;type c;role r{a b};role s{a b c};user u{r};user v{r s};allow * "
            + "*:file*;allow * *:dir*;" + "allow * *:process*;";

    public static void main(String[] args) {
        tree();
        paths();
        walks();
        places();
        look();
        makeDirectory();
        newContexts();
        removeDirectory();
        unlink();
        run();
        runContexts();
        refusals();
        numbers();
        S.finish();
    }

    private static void tree() {
        S.promise(NAME, "Terms 3");
        S.holds("NODES 0 .. 31 are there or not", FREE, "9* 0 mkdir % = %", "10* 0 mkdir %01", "10* 0 mkdir %02",
                "0 mkdir 103 = 30", "node 31 0 = NoSuchElement", "0 mkdir 203 = 31", "node 31 0 = 1", "! 0 mkdir 303 = NO_ROOM",
                "0 rmdir 101 = 0", "0 mkdir 303 = 10");
        S.holds("with up to ten ENTRIES, in order: a NAME, 1 .. 99, and a node, no name twice", FREE, "8* 0 mkdir % = %",
                "0 mkdir 99 = 9", "0 mkdir 98 = 10", "node 0 1 = 10", "node 0 3 = 101", "node 0 11 = 999", "node 0 12 = 1098",
                "! 0 mkdir 97 = NO_ROOM", "0 mkdir 99 = EXISTS", "0 rmdir 1 = 0", "node 0 3 = 202", "node 0 11 = 1098",
                "node 0 12 = NoSuchElement", "0 mkdir 97 = 1", "node 0 12 = 197");
        S.holds("LINKS of a node: the entries that tell it.", FREE, "node 0 2 = 0", "0 open 1 8 = 0", "node 1 2 = 1",
                "0 link 1 2 = 0", "node 1 2 = 2", "0 mkdir 3 = 2", "0 link 1 103 = 0", "node 1 2 = 3", "node 2 2 = 1",
                "0 rename 103 4 = 0", "node 1 2 = 3", "0 unlink 1 = 0", "node 1 2 = 2");
        S.holds("Node 0, the ROOT, is a directory that is always there.", FREE, "0 rmdir 0 = EXISTS", "0 unlink 0 = EXISTS",
                "0 open 0 1 = 0", "0 close 0 = 0", "node 0 0 = 1", "0 open 0 1 = 0", "0 leave = 0", "node 0 0 = 1", "crash 0",
                "node 0 0 = 1", "0 look 0 = 1");
        S.holds("A node goes when it has no links and no handle is of it (but the root).", FREE, "0 open 1 8 = 0",
                "0 link 1 2 = 0", "0 unlink 1 = 0", "node 1 2 = 1", "0 unlink 2 = 0", "node 1 2 = 0", "0 dup 0 = 1",
                "0 close 0 = 0", "node 1 0 = 0", "0 fork = 1", "0 close 1 = 0", "node 1 0 = 0", "1 leave = 0",
                "node 1 0 = NoSuchElement", "context 1 1 = NONE", "0 open 1 8 = 0", "0 open 1 8 = 1", "0 unlink 1 = 0",
                "0 close 0 = 0", "node 1 0 = 0", "0 close 1 = 0", "node 1 0 = NoSuchElement");
        S.holds("A node goes when it has no links and no handle is of it (but the root).", FREE, "0 mkdir 1 = 1",
                "0 open 1 1 = 0", "0 rmdir 1 = 0", "node 1 0 = 1", "node 1 2 = 0", "0 mkdir 1 = 2", "0 list 0 = 256",
                "0 close 0 = 0", "node 1 0 = NoSuchElement", "0 rmdir 1 = 0", "node 2 0 = NoSuchElement", "0 mkdir 1 = 1",
                "0 open 1 1 = 0", "0 close 0 = 0", "node 1 2 = 1");
    }

    private static void paths() {
        S.promise(NAME, "Terms 3");
        S.holds("A PATH is a number from 0 on, up to four names: n1 + 100 n2 + 10000 n3 + 1000000 n4", FREE, "0 look 0 = 1",
                "0 mkdir 99 = 1", "0 mkdir 9899 = 2", "0 mkdir 979899 = 3", "0 mkdir 96979899 = 4", "0 look 96979899 = 101",
                "0 look 979899 = 103", "node 3 3 = 496", "0 mkdir 1 = 5", "0 mkdir 201 = 6", "0 mkdir 30201 = 7",
                "0 mkdir 4030201 = 8", "node 7 3 = 804", "0 mkdir 10000201 = IllegalArgument", "0 look 4030201 = 101");
        S.holds("0 standing for none, behind a 0 only 0 (otherwise, or below 0 or above 99999999, it is none)", FREE,
                "0 look -1 = IllegalArgument", "0 look 100 = IllegalArgument", "0 look 9900 = IllegalArgument",
                "0 look 10000 = IllegalArgument", "0 look 10001 = IllegalArgument", "0 look 10100 = IllegalArgument",
                "0 look 1000000 = IllegalArgument", "0 look 1000001 = IllegalArgument", "0 look 1000101 = IllegalArgument",
                "0 look 1010100 = IllegalArgument", "0 look 1010001 = IllegalArgument", "0 look 99999999 = NOT_THERE",
                "0 look 100000000 = IllegalArgument", "0 look 101010101 = IllegalArgument",
                "0 look 0x7fffffff = IllegalArgument", "0 look 0x80000000 = IllegalArgument", "0 look -101 = IllegalArgument",
                "0 look 1 = NOT_THERE", "0 look 101 = NOT_THERE", "0 look 10101 = NOT_THERE", "0 look 1010101 = NOT_THERE",
                "0 look 0 = 1");
    }

    private static void walks() {
        S.promise(NAME, "Terms 3");
        String tree = "0 mkdir 1 = 1";
        S.holds("the node must be a directory (NO DIRECTORY), dir search of it must be granted (DENIED), and have the name "
                + "(NOT THERE)", Sentences.freeBut("dir search"), tree, "0 mkdir 201 = 2", "0 open 301 8 = 0",
                "0 look 10301 = NO_DIRECTORY", "0 look 90801 = NOT_THERE", "0 look 90201 = NOT_THERE", "label 1 1",
                "0 look 1 = 105", "0 look 201 = DENIED", "0 look 901 = DENIED", "0 look 10301 = DENIED", "label 1 0",
                "label 2 1", "label 3 1", "0 look 10201 = DENIED", "0 look 10301 = NO_DIRECTORY", "0 look 201 = 101",
                "label 0 1", "0 look 9 = DENIED", "0 look 0 = 3");
        S.holds("the node must be a directory (NO DIRECTORY)", FREE, "0 open 1 8 = 0", "about 1 = 3",
                "! 0 look 101 = NO_DIRECTORY", "about 1 = 4", "0 look 1020101 = NO_DIRECTORY", "about 1 = 5");
        S.holds("dir search of it must be granted (DENIED)", Sentences.freeBut("dir search"), "0 mkdir 1 = 1", "label 1 1",
                "! 0 look 101 = DENIED", "last 0 = 0", "last 1 = 0", "last 2 = 1", "last 3 = 1", "last 4 = 2", "about 0 = 1");
        S.holds("the node of which is next", FREE, "0 mkdir 1 = 1", "0 mkdir 2 = 2", "0 mkdir 102 = 3", "0 mkdir 10102 = 4",
                "0 look 2 = 103", "0 look 102 = 103", "0 look 10102 = 101", "0 look 101 = NOT_THERE", "0 look 202 = NOT_THERE");
    }

    private static void places() {
        S.promise(NAME, "Terms 3");
        S.holds("A path's PLACE is the directory to which the walk of all names but the last one comes, and the last name: NO "
                + "DIRECTORY if that is none, " + "then dir search of it", Sentences.freeBut("dir search"), "0 mkdir 1 = 1",
                "0 open 101 8 = 0", "about 1 = 7", "0 mkdir 10101 = NO_DIRECTORY", "about 1 = 9",
                "0 mkdir 1010101 = NO_DIRECTORY", "0 mkdir 10901 = NOT_THERE", "label 2 1", "0 mkdir 10101 = NO_DIRECTORY",
                "label 1 1", "0 mkdir 101 = DENIED", "last 4 = 2", "0 mkdir 901 = DENIED", "0 mkdir 10101 = DENIED",
                "0 rmdir 101 = DENIED", "0 unlink 901 = DENIED", "label 1 0", "label 0 1", "0 mkdir 2 = DENIED",
                "0 mkdir 101 = DENIED", "last 2 = 1");
        S.holds("a path without names has none (EXISTS)", Sentences.freeBut("dir search"), "label 0 1", "! 0 mkdir 0 = EXISTS",
                "0 rmdir 0 = EXISTS", "0 unlink 0 = EXISTS", "about 1 = 0", "0 rename 0 1 = EXISTS", "about 1 = 0");
    }

    private static void look() {
        S.promise(NAME, "Terms 4");
        S.holds("look(path): walk; look of it (as file or dir): twice how many bytes or entries, 1 more for a directory, and "
                + "100 times its links.", FREE, "0 look 0 = 1", "0 open 1 10 = 0", "0 look 0 = 3", "0 look 1 = 100",
                "0 write 0 0 = 0", "0 look 1 = 102", "0 seek 0 23 = 23", "0 write 0 0 = 0", "0 look 1 = 148", "0 link 1 2 = 0",
                "0 look 2 = 248", "0 mkdir 3 = 2", "0 look 3 = 101", "10* 0 mkdir %03", "0 look 3 = 121",
                "9* 0 link 1 %04 = NOT_THERE", "0 mkdir 4 = 13", "10* 0 link 1 %04 = 0", "0 look 1 = 1248");
        S.holds("look of it (as file or dir)", Sentences.freeBut("file look"), "0 open 1 8 = 0", "0 mkdir 2 = 2", "label 1 1",
                "label 2 1", "! 0 look 1 = DENIED", "last 2 = 1", "last 3 = 0", "last 4 = 256", "0 look 2 = 101", "about 0 = 1",
                "0 look 9 = NOT_THERE");
        S.holds("look of it (as file or dir)", Sentences.freeBut("dir look"), "0 open 1 8 = 0", "0 mkdir 2 = 2", "label 1 1",
                "label 2 1", "! 0 look 2 = DENIED", "last 2 = 1", "last 3 = 1", "last 4 = 256", "0 look 1 = 100", "label 0 1",
                "0 look 0 = DENIED", "0 look 9 = NOT_THERE");
    }

    private static void makeDirectory() {
        S.promise(NAME, "Terms 4");
        S.holds("makeDirectory(path): the place; EXISTS if the name is there", Sentences.freeBut("dir search"), "0 mkdir 1 = 1",
                "! 0 mkdir 1 = EXISTS", "0 open 2 8 = 0", "0 mkdir 2 = EXISTS", "0 mkdir 101 = 3", "label 1 1",
                "0 mkdir 101 = DENIED");
        S.holds("EXISTS if the name is there; dir add; the new context of the directory's type and dir; dir create of it; NO "
                + "ROOM as for open; its node.", Sentences.freeBut("dir add"), "0 mkdir 1 = 1", "0 mkdir 101 = 2", "label 1 1",
                "! 0 mkdir 101 = EXISTS", "about 0 = 0", "! 0 mkdir 201 = DENIED", "last 2 = 1", "last 3 = 1", "last 4 = 4",
                "about 4 = 3");
        S.holds("dir add; the new context of the directory's type and dir", Sentences.freeBut("dir add") + "move a b:dir c;",
                "label 0 1", "0 mkdir 1 = DENIED", "last 4 = 4");
        S.holds("the new context of the directory's type and dir; dir create of it", FREE
                + "move a b:dir c;limit dir create t2!=c;", "label 0 1", "about 1 = 0", "! 0 mkdir 1 = NO_CONTEXT",
                "about 1 = 2", "about 0 = 0");
        S.holds("dir create of it; NO ROOM as for open; its node", Sentences.freeBut("dir create"), "10* 0 mkdir % = %",
                "label 0 1", "! 0 mkdir 11 = DENIED", "last 2 = 1", "last 3 = 1", "last 4 = 16", "label 0 0",
                "! 0 mkdir 11 = NO_ROOM", "0 rmdir 4 = 0", "0 mkdir 11 = 4");
        S.holds("NO ROOM as for open", FREE, "9* 0 mkdir % = %", "10* 0 mkdir %01", "10* 0 mkdir %02", "2* 0 mkdir %03",
                "! 0 mkdir 10 = NO_ROOM", "0 rmdir 203 = 0", "0 mkdir 10 = 31");
    }

    private static void newContexts() {
        S.promise(NAME, "Terms 4");
        String words = "NEW contexts have p's user and role, and the type of the move for p's type, the type told and the "
                + "class, or the type told without one";
        S.holds(words, ROLES + "move a a:dir b;move b a:dir a;move a b:file c;", "0 switch 1100 = 0", "label 0 1101",
                "0 mkdir 1 = 1", "context 1 1 = 1101", "label 0 1102", "0 mkdir 2 = 2", "context 2 1 = 1102", "label 0 0",
                "0 mkdir 3 = 3", "context 3 1 = 1101", "0 switch 1101 = 0", "0 mkdir 4 = 4", "context 4 1 = 1100",
                "0 switch 1001 = 0", "0 mkdir 5 = 5", "context 5 1 = 1000", "0 switch 1 = 0", "0 mkdir 6 = 6",
                "context 6 1 = 0");
        S.holds("they must be valid (NO CONTEXT)", ROLES + "move a b:dir c;move b c:dir a;", "label 0 1102",
                "! 0 mkdir 1 = NO_CONTEXT", "label 0 1", "! 0 mkdir 1 = NO_CONTEXT", "0 switch 1100 = 0", "0 mkdir 1 = 1",
                "context 1 1 = 1102", "label 0 1102", "0 mkdir 2 = 2", "context 2 1 = 1102", "0 switch 1001 = 0",
                "0 mkdir 3 = 3", "context 3 1 = 1000", "0 switch 1000 = 0", "0 mkdir 4 = NO_CONTEXT");
    }

    private static void removeDirectory() {
        S.promise(NAME, "Terms 4");
        String words = "removeDirectory(path): the place; NOT THERE; NO DIRECTORY; dir remove of the directory, dir unlink of "
                + "it; NOT EMPTY if it has entries; 0.";
        S.holds(words, FREE, "! 0 rmdir 1 = NOT_THERE", "0 rmdir 101 = NOT_THERE", "0 open 1 8 = 0",
                "! 0 rmdir 1 = NO_DIRECTORY", "0 rmdir 101 = NO_DIRECTORY", "0 mkdir 2 = 2", "0 mkdir 102 = 3",
                "! 0 rmdir 2 = NOT_EMPTY", "0 rmdir 102 = 0", "node 3 0 = NoSuchElement", "0 rmdir 2 = 0",
                "node 2 0 = NoSuchElement", "node 0 1 = 1", "0 rmdir 2 = NOT_THERE", "0 rmdir 0 = EXISTS");
        S.holds("removeDirectory(path): the place; NOT THERE", Sentences.freeBut("dir search"), "0 mkdir 1 = 1", "label 1 1",
                "! 0 rmdir 101 = DENIED");
        S.holds("NOT THERE; NO DIRECTORY; dir remove of the directory, dir unlink of it", Sentences.freeBut("dir remove"),
                "0 open 1 8 = 0", "0 mkdir 2 = 2", "label 0 1", "0 rmdir 3 = NOT_THERE", "0 rmdir 1 = NO_DIRECTORY",
                "about 0 = 0", "! 0 rmdir 2 = DENIED", "last 2 = 1", "last 3 = 1", "last 4 = 8");
        S.holds("dir remove of the directory, dir unlink of it; NOT EMPTY if it has entries", Sentences.freeBut("dir remove",
                "dir unlink"), "0 mkdir 1 = 1", "0 mkdir 101 = 2", "label 0 1", "0 rmdir 1 = DENIED", "last 4 = 8", "label 0 0",
                "0 rmdir 1 = NOT_EMPTY", "label 1 1", "0 rmdir 1 = DENIED", "last 2 = 1", "last 3 = 1", "last 4 = 32",
                "0 rmdir 101 = DENIED", "last 4 = 8", "label 1 0", "0 rmdir 101 = 0", "label 1 1", "! 0 rmdir 1 = DENIED",
                "last 4 = 32");
    }

    private static void unlink() {
        S.promise(NAME, "Terms 4");
        S.holds("unlink(path): the place; NOT THERE; IS DIRECTORY; dir remove, file unlink; 0.", FREE,
                "! 0 unlink 1 = NOT_THERE", "0 unlink 101 = NOT_THERE", "0 mkdir 1 = 1", "! 0 unlink 1 = IS_DIRECTORY",
                "0 open 2 8 = 0", "0 close 0 = 0", "0 unlink 102 = NO_DIRECTORY", "0 unlink 2 = 0", "node 2 0 = NoSuchElement",
                "node 0 1 = 1", "0 unlink 2 = NOT_THERE", "0 unlink 0 = EXISTS");
        S.holds("unlink(path): the place; NOT THERE", Sentences.freeBut("dir search"), "0 mkdir 1 = 1", "label 1 1",
                "! 0 unlink 101 = DENIED");
        S.holds("NOT THERE; IS DIRECTORY; dir remove, file unlink", Sentences.freeBut("dir remove", "file unlink"),
                "0 open 1 8 = 0", "0 mkdir 2 = 2", "label 0 1", "label 1 1", "label 2 1", "0 unlink 3 = NOT_THERE",
                "0 unlink 2 = IS_DIRECTORY", "about 0 = 0", "! 0 unlink 1 = DENIED", "last 2 = 1", "last 3 = 1", "last 4 = 8",
                "label 0 0", "! 0 unlink 1 = DENIED", "last 2 = 1", "last 3 = 0", "last 4 = 16", "label 1 0", "0 unlink 1 = 0");
    }

    private static void run() {
        S.promise(NAME, "Terms 4");
        S.holds("run(path): walk; IS DIRECTORY; file read", Sentences.freeBut("file read", "dir search"),
                "0 run 0 = IS_DIRECTORY", "0 run 1 = NOT_THERE", "0 mkdir 1 = 1", "0 open 101 8 = 0", "label 1 1",
                "about 0 = 0", "! 0 run 1 = IS_DIRECTORY", "about 0 = 0", "0 run 101 = DENIED", "last 4 = 2", "label 1 0",
                "0 run 101 = 0", "label 2 1", "! 0 run 101 = DENIED", "last 2 = 1", "last 3 = 0", "last 4 = 1");
        S.holds("run(path): walk; IS DIRECTORY; file read", Sentences.freeBut("dir read"), "0 mkdir 1 = 1", "label 1 1",
                "about 1 = 3", "! 0 run 1 = IS_DIRECTORY", "about 1 = 4", "label 0 1", "0 run 0 = IS_DIRECTORY", "about 1 = 4");
        S.holds("file read; the new context of the file's type and process", Sentences.freeBut("file read")
                + "move a b:process c;", "0 open 1 8 = 0", "label 1 1", "0 run 1 = DENIED", "last 4 = 1");
        S.holds("the new context of the file's type and process, but p's own type without a move", FREE
                + "move a b:process b;move b b:process a;", "0 open 1 8 = 0", "0 run 1 = 0", "context 0 0 = 0", "label 1 1",
                "0 run 1 = 1", "context 0 0 = 1", "label 1 0", "0 run 1 = 1", "context 0 0 = 1", "label 1 1", "0 run 1 = 0",
                "context 0 0 = 0");
        S.holds("the new context of the file's type and process", FREE
                + "move a b:process c;limit process become t2!=c;limit file entry t1!=c;", "0 open 1 8 = 0", "label 1 1",
                "about 1 = 3", "! 0 run 1 = NO_CONTEXT", "about 1 = 5", "about 0 = 0");
    }

    private static void runContexts() {
        S.promise(NAME, "Terms 4");
        S.holds("if it isn't p's: process become of it; file entry, with the new one as source", FREE
                + "limit process become t2!=a;limit file entry t1!=a;" + "move a a:process a;", "0 open 1 8 = 0", "about 1 = 3",
                "0 run 1 = 0", "about 1 = 5", "label 1 1", "0 run 1 = 0", "about 1 = 7");
        S.holds("process become of it; file entry, with the new one as source", Sentences.freeBut("process become",
                "file entry") + "move a b:process b;", "0 open 1 8 = 0", "label 1 1", "! 0 run 1 = DENIED", "last 1 = 0",
                "last 2 = 1", "last 3 = 2", "last 4 = 2");
        S.holds("file entry, with the new one as source; p has it then; its type.", FREE
                + "limit file entry t1!=b;move a b:process b;", "0 open 1 8 = 0", "label 1 1", "! 0 run 1 = DENIED",
                "last 1 = 1", "last 2 = 1", "last 3 = 0", "last 4 = 512", "context 0 0 = 0");
        S.holds("file entry, with the new one as source; p has it then; its type.", FREE
                + "limit file entry t1==b;move a b:process b;", "0 open 1 8 = 0", "label 1 1", "about 1 = 3", "0 run 1 = 1",
                "about 1 = 7", "context 0 0 = 1");
        S.holds("p has it then; its type.", ROLES + "move a b:process c;", "0 open 1 8 = 0", "label 1 1",
                "0 run 1 = NO_CONTEXT", "0 switch 1100 = 0", "0 run 1 = 2", "context 0 0 = 1102", "0 run 1 = 2");
    }

    private static void refusals() {
        S.promise(NAME, "Terms 4");
        S.holds("Each is done in the order told here, up to the first that tells a RESULT below 0 (then nothing is changed "
                + "but cache, identifiers and records).", Sentences.freeBut("dir unlink"), "0 mkdir 1 = 1", "label 1 1",
                "crash 2", "about 3 = 0", "about 7 = 1", "! 0 rmdir 1 = DENIED", "about 3 = 2", "about 7 = 2", "about 0 = 1",
                "about 1 = 6", "context 1 1 = 1");
        S.holds("(its context is the source of checks, if no other one is told)", FREE + "limit dir{search look}t1!=b;",
                "0 fork = 1", "1 switch 1 = 0", "0 look 0 = 1", "1 look 0 = DENIED", "last 1 = 1", "last 2 = 0",
                "0 look 1 = NOT_THERE", "1 look 1 = DENIED");
    }

    private static void numbers() {
        S.promise(NAME);
        S.holds("0 look, 1 makeDirectory, 2 removeDirectory, 3 unlink, 4 run", FREE, "onPath 0 1 1 = 1", "onPath 0 0 1 = 101",
                "onPath 0 3 1 = IS_DIRECTORY", "onPath 0 4 1 = IS_DIRECTORY", "onPath 0 2 1 = 0");
        S.holds("IllegalArgumentException also for another kind.", FREE, "! onPath 0 -1 0 = IllegalArgument",
                "! onPath 0 5 0 = IllegalArgument", "onPath 0 0x7fffffff 0 = IllegalArgument",
                "onPath 0 0x80000000 0 = IllegalArgument", "onPath 1 5 0 = IllegalArgument", "about 1 = 0");
        S.promise(NAME, "Behind Terms 6");
        S.holds("Calls of acts: IllegalStateException if there is no policy, ahead of all else", "",
                "onPath 0 0 0 = IllegalState", "onPath 8 0 0 = IllegalState", "onPath 0 5 0 = IllegalState",
                "onPath 0 0 -1 = IllegalState", "onPath 1 0 0 = IllegalState");
        for (int kind = 0; kind < 5; kind++) {
            S.holds("then IllegalArgumentException if a number is not as it must be (paths, too), then NoSuchElementException "
                    + "if there is no process p", FREE, "onPath 1 " + kind + " 100 = IllegalArgument", "onPath 1 " + kind
                    + " -1 = IllegalArgument", "onPath 1 " + kind + " 100000000 = IllegalArgument", "onPath 1 " + kind
                    + " 0 = NoSuchElement", "onPath 7 " + kind + " 0 = NoSuchElement", "onPath 8 " + kind
                    + " 0 = IllegalArgument", "onPath -1 " + kind + " 0 = IllegalArgument", "! onPath 0 " + kind
                    + " 10001 = IllegalArgument", "! onPath 7 " + kind + " 1 = NoSuchElement");
        }
        S.holds("numbers of processes are 0 .. 7", FREE, "7* 0 fork", "7* % look 0 = 1", "0 look 0 = 1",
                "8 look 0 = IllegalArgument", "-1 look 0 = IllegalArgument", "onPath 0x7fffffff 0 0 = IllegalArgument",
                "onPath 0x80000000 0 0 = IllegalArgument", "7 leave = 0", "7 look 0 = NoSuchElement");
    }
}
