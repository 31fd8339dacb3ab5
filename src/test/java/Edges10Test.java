/** The edges of promise 10, sentence by sentence: onPaths, which is open, link, rename and relabel. */
public final class Edges10Test {
    private static final Sentences S = new Sentences();
    private static final String NAME = "Promise 10: onPaths";
    private static final String FREE = Sentences.FREE;

    public static void main(String[] args) {
        openNew();
        openThere();
        openModes();
        openRoom();
        openMakes();
        link();
        linkRefused();
        rename();
        renameRefused();
        renameInside();
        relabel();
        numbers();
        S.finish();
    }

    private static void openNew() {
        S.promise(NAME, "Terms 4");
        S.holds("the path's place; if the name isn't there: NOT THERE without 8", Sentences.freeBut("dir search", "dir add"),
                "! 0 open 1 0 = NOT_THERE", "0 open 1 1 = NOT_THERE", "0 open 1 7 = NOT_THERE", "0 open 1 23 = NOT_THERE",
                "0 open 101 8 = NOT_THERE", "0 mkdir 1 = 1", "0 open 2 8 = 0", "0 open 102 8 = NO_DIRECTORY", "label 1 1",
                "! 0 open 101 0 = DENIED", "last 4 = 2", "0 open 101 8 = DENIED", "last 4 = 2");
        S.holds("NOT THERE without 8; dir add of the directory", Sentences.freeBut("dir add"), "label 0 1",
                "0 open 1 7 = NOT_THERE", "about 0 = 0", "! 0 open 1 8 = DENIED", "last 2 = 1", "last 3 = 1", "last 4 = 4");
        S.holds("dir add of the directory; the new context of the directory's type and file", Sentences.freeBut("dir add")
                + "move a b:file c;", "label 0 1", "0 open 1 8 = DENIED", "last 4 = 4");
        S.holds("the new context of the directory's type and file; file create of it", FREE
                + "move a b:file c;move a a:dir c;limit file create t2!=c;", "label 0 1", "about 1 = 0",
                "! 0 open 1 8 = NO_CONTEXT", "about 1 = 2", "about 0 = 0", "label 0 0", "0 open 1 8 = 0");
        S.holds("the new context of the directory's type and file", FREE + "move a a:file b;", "0 open 1 8 = 0",
                "context 1 1 = 1", "label 0 1", "0 open 2 8 = 1", "context 2 1 = 1", "0 switch 1 = 0", "label 0 0",
                "0 open 3 8 = 2", "context 3 1 = 0");
        S.holds("file create of it; NO ROOM if all nodes are there, or the directory is full", FREE
                + "move a a:file b;limit file create t2!=b;", "10* 0 mkdir %", "! 0 open 11 8 = DENIED", "last 2 = 1",
                "last 3 = 0", "last 4 = 8");
        S.holds("NO ROOM if all nodes are there, or the directory is full (ahead of what follows)", FREE
                + "move a a:file b;limit file{read write append}t2!=b;", "9* 0 mkdir %", "0 open 10 9 = DENIED",
                "0 mkdir 10 = 10", "! 0 open 11 9 = NO_ROOM", "! 0 open 11 8 = NO_ROOM", "0 open 101 9 = DENIED",
                "0 open 101 8 = 0", "0 open 10 16 = IS_DIRECTORY");
        S.holds("NO ROOM if all nodes are there", FREE + "limit file read t2!=a;", "9* 0 mkdir %", "10* 0 mkdir %01",
                "10* 0 mkdir %02", "2* 0 mkdir %03", "0 open 10 9 = NO_ROOM", "! 0 open 10 8 = NO_ROOM", "0 rmdir 203 = 0",
                "0 open 10 9 = DENIED", "0 open 10 8 = 0", "node 31 0 = 0");
    }

    private static void openThere() {
        S.promise(NAME, "Terms 4");
        String words = "If it is there, and for the root's path: a directory may be opened with mode 1 alone (IS DIRECTORY "
                + "otherwise), dir read of it.";
        String[] lines = new String[65];
        lines[0] = "0 mkdir 1 = 1";
        for (int mode = 0; mode < 32; mode++) {
            lines[1 + mode] = "0 open 0 " + mode + " = " + (mode == 1 ? "0" : "IS_DIRECTORY");
            lines[33 + mode] = "0 open 1 " + mode + " = " + (mode == 1 ? "1" : "IS_DIRECTORY");
        }
        S.holds(words, FREE, lines);
        S.holds("(IS DIRECTORY otherwise), dir read of it", Sentences.freeBut("dir read"), "0 mkdir 1 = 1", "label 1 1",
                "0 open 1 3 = IS_DIRECTORY", "about 0 = 0", "! 0 open 1 1 = DENIED", "last 2 = 1", "last 3 = 1", "last 4 = 1",
                "0 open 0 1 = 0", "label 0 1", "! 0 open 0 1 = DENIED", "0 open 0 0 = IS_DIRECTORY");
        S.holds("and for the root's path", Sentences.freeBut("dir search"), "label 0 1", "about 1 = 0", "0 open 0 1 = 0",
                "about 1 = 1", "0 open 1 1 = DENIED", "0 list 0 = 256");
        S.holds("dir read of it", Sentences.freeBut("dir read"), "6* 0 open 1 8", "label 0 1", "! 0 open 0 1 = DENIED",
                "label 0 0", "! 0 open 0 1 = NO_ROOM");
        S.holds("If it is there", FREE, "0 open 1 10 = 0", "0 write 0 65 = 0", "0 open 1 8 = 1", "node 1 1 = 1", "node 0 1 = 1",
                "about 4 = 2", "0 open 1 0 = 2");
    }

    private static void openModes() {
        S.promise(NAME, "Terms 4");
        String words = "Of a file, with its context: file read for 1, file write for 2 or 16, file append for 4 (one question "
                + "for all; none without these), " + "also of a new one";
        for (int mode = 0; mode < 32; mode++) {
            int asked = (mode & 7) | ((mode & 16) != 0 ? 2 : 0);
            // Of a new file the three questions ahead are search, add and create.
            String[] lines = {"0 open 1 8 = 0", "label 1 1", "about 1 = 3", "0 open 1 " + mode + " = "
                    + (asked == 0 ? "1" : "DENIED"), "about 1 = " + (asked == 0 ? 4 : 5),
                    asked == 0 ? "about 0 = 0" : "last 4 = " + asked, asked == 0 ? "about 0 = 0" : "last 2 = 1", "label 0 1",
                    "0 open 2 " + (mode | 8) + " = " + (asked == 0 ? "2" : "DENIED"), "about 1 = " + (asked == 0 ? 7 : 9),
                    asked == 0 ? "about 0 = 0" : "last 4 = " + asked, "about 0 = " + (asked == 0 ? 0 : 2)};
            S.holds(words, Sentences.freeBut("file{read write append}"), lines);
            String[] free = {"0 open 1 10 = 0", "0 write 0 65 = 0", "0 open 1 " + mode + " = 1", "0 read 1 = " + read(mode),
                    "0 write 1 66 = " + ((mode & 6) == 0 ? "WRONG_MODE" : "0"), "0 empty 1 = "
                    + ((mode & 2) == 0 ? "WRONG_MODE" : "0")};
            S.holds("mode being bits 1 reading, 2 writing, 4 appending, 8 make it, 16 empty it", FREE, free);
        }
        asked("read", 1, 2, 4, 16);
        asked("write", 2, 1, 4, 5);
        asked("write", 16, 1, 4, 5);
        asked("append", 4, 1, 2, 16);
        S.holds("(mode 0: a handle that may do nothing)", FREE, "0 open 1 8 = 0", "0 open 1 0 = 1", "0 read 1 = WRONG_MODE",
                "0 write 1 0 = WRONG_MODE", "0 empty 1 = WRONG_MODE", "0 list 1 = NO_DIRECTORY", "0 seek 1 3 = 3",
                "0 read 0 = WRONG_MODE", "0 write 0 0 = WRONG_MODE");
        S.holds("(one question for all; none without these)", FREE + "limit file append t2!=b;audit a b:file read;",
                "0 open 1 8 = 0", "label 1 1", "0 open 1 7 = DENIED", "about 0 = 1", "last 0 = 0", "last 4 = 7",
                "0 open 1 3 = 1", "about 0 = 2", "last 0 = 1", "last 4 = 3");
    }

    private static String read(int mode) {
        return (mode & 1) == 0 ? "WRONG_MODE" : (mode & 16) != 0 ? "256" : "65";
    }

    /** Without the permission the mode is denied, and the other modes are not. */
    private static void asked(String permission, int mode, int... others) {
        String[] lines = new String[5 + others.length];
        lines[0] = "0 open 1 8 = 0";
        lines[1] = "label 1 1";
        lines[2] = "! 0 open 1 " + mode + " = DENIED";
        lines[3] = "! 0 open 1 7 = DENIED";
        lines[4] = "0 open 1 0 = 1";
        for (int i = 0; i < others.length; i++) {
            lines[5 + i] = "0 open 1 " + others[i] + " = "
                    + ((others[i] & 18) != 0 && permission.equals("write") ? "DENIED" : String.valueOf(2 + i));
        }
        S.holds("file read for 1, file write for 2 or 16, file append for 4", Sentences.freeBut("file " + permission), lines);
    }

    private static void openRoom() {
        S.promise(NAME, "Terms 4");
        S.holds("NO ROOM if p has six handles", Sentences.freeBut("file write"), "0 open 1 10 = 0", "0 write 0 65 = 0",
                "4* 0 open 1 0", "0 open 1 0 = 5", "0 open 1 0 = NO_ROOM", "! 0 open 1 16 = NO_ROOM", "! 0 open 2 8 = NO_ROOM",
                "0 open 0 1 = NO_ROOM", "label 1 1", "0 open 1 16 = DENIED", "label 1 0", "0 close 3 = 0", "0 open 1 0 = 3",
                "0 open 1 0 = NO_ROOM");
        S.holds("also of a new one (mode 0: a handle that may do nothing). NO ROOM if p has six handles", FREE
                + "move a a:file b;limit file read t2!=b;", "6* 0 open 1 8", "! 0 open 2 9 = DENIED", "last 4 = 1",
                "! 0 open 2 8 = NO_ROOM", "0 open 2 10 = NO_ROOM");
        S.holds("or there are 16 openings", FREE, "6* 0 open 1 8", "0 fork = 1", "1 close 0 = 0", "5* 1 close %",
                "6* 1 open 1 8", "0 fork = 2", "2 close 0 = 0", "5* 2 close %", "about 5 = 12", "3* 2 open 1 8",
                "2 open 1 0 = 3", "about 5 = 16", "! 2 open 1 0 = NO_ROOM", "! 2 open 0 1 = NO_ROOM", "! 2 open 3 8 = NO_ROOM",
                "2 dup 0 = 4", "2 open 1 0 = NO_ROOM", "0 close 5 = 0", "about 5 = 15", "0 open 3 8 = 5", "node 0 1 = 2");
    }

    private static void openMakes() {
        S.promise(NAME, "Terms 4");
        S.holds("Then the node is made (the least number that isn't there; entries' last one), if it is new", FREE,
                "3* 0 mkdir %", "0 rmdir 2 = 0", "0 open 9 8 = 0", "node 2 0 = 0", "node 2 1 = 0", "node 0 5 = 209",
                "0 open 8 8 = 1", "node 4 0 = 0", "node 0 6 = 408", "0 open 9 8 = 2", "node 0 1 = 4", "0 unlink 9 = 0",
                "0 open 7 8 = 3", "node 5 2 = 1", "node 0 6 = 507");
        S.holds("emptied for 16, if it has bytes", FREE, "0 open 1 10 = 0", "0 write 0 65 = 0", "0 write 0 66 = 0",
                "about 4 = 3", "0 open 1 16 = 1", "node 1 1 = 0", "about 4 = 4", "0 open 1 24 = 2", "about 4 = 4",
                "0 open 1 18 = 3", "about 4 = 4", "0 write 0 67 = 0", "node 1 1 = 3", "0 open 1 15 = 4", "node 1 1 = 3",
                "0 open 1 31 = 5", "node 1 1 = 0");
        S.holds("The least handle.", FREE, "0 open 1 8 = 0", "0 open 1 8 = 1", "0 open 1 8 = 2", "0 close 1 = 0",
                "0 close 0 = 0", "0 open 1 8 = 0", "0 open 1 8 = 1", "0 open 0 1 = 3");
        S.holds("a place (0 at first)", FREE, "0 open 1 11 = 0", "0 write 0 65 = 0", "0 close 0 = 0", "0 open 1 1 = 0",
                "0 read 0 = 65", "0 close 0 = 0", "0 open 1 1 = 0", "0 read 0 = 65", "0 open 0 1 = 1", "0 list 1 = 1",
                "0 close 1 = 0", "0 open 0 1 = 1", "0 list 1 = 1");
        S.holds("and the context of the process that opened it", Sentences.freeBut("handle use"), "0 open 1 9 = 0",
                "0 switch 1 = 0", "0 open 1 9 = 1", "0 switch 0 = 0", "0 read 0 = 256", "0 read 1 = DENIED", "last 2 = 1",
                "last 3 = 4");
    }

    private static void link() {
        S.promise(NAME, "Terms 4");
        S.holds("link(path, to): walk; IS DIRECTORY; to's place; EXISTS; dir add, file link; NO ROOM if the directory is "
                + "full; 0.", FREE, "0 open 1 10 = 0", "0 write 0 65 = 0", "0 mkdir 2 = 2", "0 link 1 102 = 0",
                "node 2 3 = 101", "node 1 2 = 2", "0 link 102 99 = 0", "node 0 5 = 199", "node 1 2 = 3", "0 unlink 1 = 0",
                "0 look 99 = 202", "about 4 = 6");
        S.holds("link(path, to): walk; IS DIRECTORY; to's place", Sentences.freeBut("dir search"), "0 open 1 8 = 0",
                "0 mkdir 2 = 2", "0 link 9 101 = NOT_THERE", "0 link 101 102 = NO_DIRECTORY", "! 0 link 2 101 = IS_DIRECTORY",
                "0 link 0 3 = IS_DIRECTORY", "0 link 0 0 = IS_DIRECTORY", "0 link 2 9999 = IS_DIRECTORY", "label 2 1",
                "0 link 2 102 = IS_DIRECTORY", "0 link 102 3 = DENIED");
        S.holds("to's place; EXISTS", Sentences.freeBut("dir search"), "0 open 1 8 = 0", "0 mkdir 2 = 2", "0 mkdir 102 = 3",
                "0 link 1 102 = EXISTS", "label 2 1", "! 0 link 1 102 = DENIED", "last 4 = 2", "0 link 1 101 = NO_DIRECTORY",
                "0 link 1 109 = NOT_THERE", "! 0 link 1 0 = EXISTS", "0 link 1 1 = EXISTS", "0 link 1 2 = EXISTS");
    }

    private static void linkRefused() {
        S.promise(NAME, "Terms 4");
        S.holds("EXISTS; dir add, file link", Sentences.freeBut("dir add", "file link"), "0 open 1 8 = 0", "0 mkdir 2 = 2",
                "0 mkdir 102 = 3", "label 2 1", "label 1 1", "! 0 link 1 102 = EXISTS", "about 0 = 0",
                "! 0 link 1 202 = DENIED", "last 2 = 1", "last 3 = 1", "last 4 = 4", "label 2 0", "! 0 link 1 202 = DENIED",
                "last 2 = 1", "last 3 = 0", "last 4 = 32", "label 1 0", "0 link 1 202 = 0");
        S.holds("file link; NO ROOM if the directory is full", Sentences.freeBut("file link"), "9* 0 mkdir %",
                "0 open 10 8 = 0", "label 10 1", "0 link 10 11 = DENIED", "label 10 0", "! 0 link 10 11 = NO_ROOM",
                "0 rmdir 3 = 0", "0 link 10 11 = 0", "node 0 12 = 1011", "0 link 10 12 = NO_ROOM", "0 link 10 101 = 0");
        S.holds("file link; NO ROOM if the directory is full; 0.", FREE, "9* 0 mkdir %", "0 open 101 8 = 0", "10* 0 mkdir %02",
                "10* 0 mkdir %03", "0 mkdir 104 = 31", "0 link 101 201 = 0", "0 link 101 301 = 0", "node 10 2 = 3");
    }

    private static void rename() {
        S.promise(NAME, "Terms 4");
        S.holds("its entry goes, a new one is the last one; 0.", FREE, "3* 0 mkdir %", "0 open 103 8 = 0", "0 rename 1 9 = 0",
                "node 0 1 = 3", "node 0 3 = 202", "node 0 4 = 303", "node 0 5 = 109", "0 rename 103 8 = 0", "node 3 1 = 0",
                "node 0 6 = 408", "node 4 2 = 1", "0 rename 9 102 = 0", "node 2 3 = 101", "node 0 1 = 3", "0 look 102 = 101",
                "0 look 9 = NOT_THERE", "0 rename 102 202 = 0", "node 2 1 = 1", "node 2 3 = 102");
        S.holds("rename(path, to): the place; NOT THERE; to's place; EXISTS", Sentences.freeBut("dir search"), "0 mkdir 1 = 1",
                "0 open 2 8 = 0", "! 0 rename 9 8 = NOT_THERE", "0 rename 9 102 = NOT_THERE", "0 rename 9 0 = NOT_THERE",
                "! 0 rename 0 3 = EXISTS", "0 rename 102 3 = NO_DIRECTORY", "0 rename 901 3 = NOT_THERE", "label 1 1",
                "0 rename 901 3 = DENIED", "last 4 = 2");
        S.holds("to's place; EXISTS; dir remove of the one, dir add of the other directory", Sentences.freeBut("dir search",
                "dir remove", "dir add"), "0 mkdir 1 = 1", "0 mkdir 101 = 2", "0 open 2 8 = 0", "0 rename 2 101 = EXISTS",
                "! 0 rename 2 2 = EXISTS", "0 rename 2 1 = EXISTS", "0 rename 2 0 = EXISTS", "0 rename 1 102 = NO_DIRECTORY",
                "0 rename 2 10901 = NOT_THERE", "label 1 1", "0 rename 2 101 = DENIED", "last 4 = 2");
    }

    private static void renameRefused() {
        S.promise(NAME, "Terms 4");
        S.holds("EXISTS; dir remove of the one, dir add of the other directory; rename of it (as file or dir)",
                Sentences.freeBut("dir{remove add}", "file rename"), "0 mkdir 1 = 1", "0 mkdir 2 = 2", "0 open 101 8 = 0",
                "0 mkdir 102 = 4", "label 1 1", "label 2 1", "label 3 1", "0 rename 101 102 = EXISTS", "about 0 = 0",
                "! 0 rename 101 202 = DENIED", "about 0 = 1", "last 2 = 1", "last 3 = 1", "last 4 = 8", "label 1 0",
                "0 rename 101 202 = DENIED", "last 3 = 1", "last 4 = 4", "label 2 0", "! 0 rename 101 202 = DENIED",
                "last 2 = 1", "last 3 = 0", "last 4 = 64", "label 3 0", "0 rename 101 202 = 0");
        S.holds("dir remove of the one, dir add of the other directory; rename of it", FREE, "0 mkdir 1 = 1", "about 1 = 3",
                "0 rename 1 2 = 0", "about 1 = 8", "0 mkdir 1 = 2", "about 1 = 11", "0 rename 1 102 = 0", "about 1 = 17");
        S.holds("rename of it (as file or dir)", Sentences.freeBut("dir rename"), "0 mkdir 1 = 1", "0 open 2 8 = 0",
                "label 1 1", "label 2 1", "! 0 rename 1 9 = DENIED", "last 2 = 1", "last 3 = 1", "last 4 = 64",
                "0 rename 2 9 = 0");
        S.holds("rename of it (as file or dir); NO ROOM if the directory is full and another one",
                Sentences.freeBut("file rename"), "0 mkdir 1 = 1", "0 open 2 8 = 0", "10* 0 mkdir %01", "label 2 1",
                "0 rename 2 1101 = DENIED", "label 2 0", "! 0 rename 2 1101 = NO_ROOM", "0 rmdir 101 = 0",
                "0 rename 2 1101 = 0", "node 1 12 = 211", "node 0 1 = 1", "0 rename 201 101 = 0", "node 1 12 = 401");
        S.holds("NO ROOM if the directory is full and another one; INSIDE", FREE, "0 mkdir 1 = 1", "10* 0 mkdir %01",
                "! 0 rename 1 1101 = NO_ROOM", "0 rmdir 101 = 0", "! 0 rename 1 1101 = INSIDE", "0 mkdir 101 = 2",
                "0 rename 201 1101 = 0", "node 1 1 = 10");
    }

    private static void renameInside() {
        S.promise(NAME, "Terms 4");
        S.holds("INSIDE if it is a directory, and to's directory is it or below it", FREE, "0 mkdir 1 = 1", "0 mkdir 101 = 2",
                "0 mkdir 10101 = 3", "0 mkdir 1010101 = 4", "0 mkdir 2 = 5", "! 0 rename 1 901 = INSIDE",
                "0 rename 1 90101 = INSIDE", "! 0 rename 1 9010101 = INSIDE", "0 rename 101 90101 = INSIDE",
                "0 rename 101 9010101 = INSIDE", "0 rename 101 901 = 0", "0 rename 901 101 = 0", "0 rename 10101 9 = 0",
                "0 rename 9 901 = 0", "0 rename 2 901 = EXISTS", "0 rename 2 902 = INSIDE", "0 rename 2 801 = 0",
                "0 rename 1 90801 = INSIDE", "0 rename 801 90101 = 0", "0 look 90101 = 101");
        S.holds("INSIDE if it is a directory", FREE, "0 mkdir 1 = 1", "0 open 101 8 = 0", "0 rename 101 201 = 0",
                "0 rename 201 2 = 0", "0 rename 2 101 = 0", "0 link 101 5 = 0", "0 rename 5 201 = 0", "node 2 2 = 2",
                "node 1 1 = 2");
    }

    private static void relabel() {
        S.promise(NAME, "Terms 4");
        S.holds("relabel(path, context): walk; NO CONTEXT if it isn't valid (IllegalArgument if it is below 0)",
                Sentences.freeBut("file relabel", "dir search"), "0 open 1 8 = 0", "0 relabel 2 2 = NOT_THERE",
                "0 relabel 101 2 = NO_DIRECTORY", "! 0 relabel 1 2 = NO_CONTEXT", "0 relabel 1 100 = NO_CONTEXT",
                "0 relabel 1 0x7fffffff = NO_CONTEXT", "! 0 relabel 1 -1 = IllegalArgument", "0 relabel 2 -1 = IllegalArgument",
                "0 relabel 1 0x80000000 = IllegalArgument", "label 1 1", "! 0 relabel 1 2 = NO_CONTEXT", "about 0 = 0",
                "0 relabel 1 0 = DENIED", "0 mkdir 3 = 2", "label 2 1", "0 relabel 103 2 = DENIED", "last 4 = 2");
        S.holds("relabel of the old one, then of the new one (as file or dir); 0.", Sentences.freeBut("file relabel"),
                "0 open 1 8 = 0", "! 0 relabel 1 1 = DENIED", "last 2 = 1", "last 3 = 0", "last 4 = 128", "about 0 = 1",
                "label 1 1", "about 1 = 6", "! 0 relabel 1 0 = DENIED", "about 1 = 8", "last 2 = 1", "label 1 0",
                "0 relabel 1 0 = 0", "about 1 = 11", "0 relabel 0 1 = 0", "context 0 1 = 1");
        S.holds("relabel of the old one, then of the new one (as file or dir); 0.", Sentences.freeBut("dir relabel"),
                "0 mkdir 1 = 1", "0 open 2 8 = 0", "! 0 relabel 1 1 = DENIED", "last 3 = 1", "last 4 = 128", "last 2 = 1",
                "0 relabel 2 1 = 0", "context 2 1 = 1", "label 1 1", "! 0 relabel 1 0 = DENIED", "context 1 1 = 1",
                "0 relabel 0 1 = DENIED");
    }

    private static void numbers() {
        S.promise(NAME);
        S.holds("0 open (path, mode), 1 link (path, to), 2 rename (path, to), 3 relabel (path, context)", FREE,
                "onPaths 0 0 1 8 = 0", "onPaths 0 1 1 2 = 0", "onPaths 0 2 2 3 = 0", "onPaths 0 3 3 1 = 0", "node 0 4 = 103",
                "context 1 1 = 1");
        S.holds("IllegalArgumentException also for another kind.", FREE, "! onPaths 0 -1 0 1 = IllegalArgument",
                "! onPaths 0 4 0 1 = IllegalArgument", "onPaths 0 0x7fffffff 0 1 = IllegalArgument",
                "onPaths 0 0x80000000 0 1 = IllegalArgument", "onPaths 1 4 0 1 = IllegalArgument", "about 5 = 0");
        S.promise(NAME, "Terms 4");
        S.holds("(IllegalArgument if not 0 .. 31)", FREE, "0 open 1 31 = 0", "0 open 1 0 = 1",
                "! 0 open 1 32 = IllegalArgument", "! 0 open 1 -1 = IllegalArgument", "0 open 1 0x7fffffff = IllegalArgument",
                "0 open 1 0x80000000 = IllegalArgument", "0 open 0 33 = IllegalArgument", "1 open 1 32 = IllegalArgument",
                "0 open 9 40 = IllegalArgument", "node 0 1 = 1");
        S.promise(NAME, "Behind Terms 6");
        S.holds("Calls of acts: IllegalStateException if there is no policy, ahead of all else", "",
                "onPaths 0 0 1 8 = IllegalState", "onPaths 8 0 1 8 = IllegalState", "onPaths 0 4 1 8 = IllegalState",
                "onPaths 0 0 100 8 = IllegalState", "onPaths 0 0 1 32 = IllegalState", "onPaths 1 3 1 -1 = IllegalState");
        for (int kind = 0; kind < 4; kind++) {
            S.holds("then IllegalArgumentException if a number is not as it must be (paths, too), then NoSuchElementException "
                    + "if there is no process p", FREE, "onPaths 1 " + kind + " 100 1 = IllegalArgument", "onPaths 1 " + kind
                    + " -1 1 = IllegalArgument", "onPaths 1 " + kind + " 100000000 1 = IllegalArgument", "! onPaths 1 " + kind
                    + " 1 1 = NoSuchElement", "onPaths 1 " + kind + " 1 -1 = IllegalArgument", "onPaths 7 " + kind
                    + " 1 1 = NoSuchElement", "onPaths 8 " + kind + " 1 1 = IllegalArgument", "onPaths -1 " + kind
                    + " 1 1 = IllegalArgument", "! onPaths 0 " + kind + " 10001 1 = IllegalArgument", "! onPaths 0 " + kind
                    + " 1 -1 = IllegalArgument");
        }
        for (String act : new String[] {"link", "rename"}) {
            S.holds("if a number is not as it must be (paths, too)", FREE, "0 open 1 8 = 0", "! 0 " + act
                    + " 1 100 = IllegalArgument", "0 " + act + " 1 100000000 = IllegalArgument", "0 " + act
                    + " 1 10001 = IllegalArgument", "1 " + act + " 1 100 = IllegalArgument", "0 " + act
                    + " 100 1 = IllegalArgument", "0 " + act + " 1 99999999 = NOT_THERE");
        }
    }
}
