/** The edges of promises 11 to 13, sentence by sentence: onHandle, write and seek. */
public final class Edges11To13Test {
    private static final Sentences S = new Sentences();
    private static final String FREE = Sentences.FREE;

    public static void main(String[] args) {
        handles();
        using();
        close();
        dup();
        read();
        readPipe();
        list();
        empty();
        onHandle();
        write();
        writePipe();
        writeFull();
        seek();
        S.finish();
    }

    private static void handles() {
        S.promise("Promise 11: onHandle", "Terms 4");
        S.holds("up to six HANDLES, 0 .. 5", FREE, "0 open 1 8 = 0", "4* 0 dup 0", "0 dup 0 = 5", "0 dup 0 = NO_ROOM",
                "0 close 5 = 0", "0 close 5 = NO_HANDLE", "0 close 6 = IllegalArgument", "0 open 1 8 = 5",
                "0 open 1 8 = NO_ROOM");
        S.holds("several handles may tell one", FREE, "0 open 1 11 = 0", "0 write 0 65 = 0", "0 write 0 66 = 0",
                "0 seek 0 0 = 0", "0 dup 0 = 1", "0 fork = 1", "0 read 0 = 65", "1 read 1 = 66", "0 read 1 = 256",
                "1 seek 0 1 = 1", "0 read 1 = 66", "about 5 = 1");
        S.holds("At most 16 openings, and four PIPES, are there; an opening goes with its last handle, a pipe with the last "
                + "opening of its ends.", FREE, "0 open 1 8 = 0", "0 dup 0 = 1", "0 close 0 = 0", "about 5 = 1",
                "0 close 1 = 0", "about 5 = 0", "0 pipe = 10", "0 dup 1 = 2", "about 5 = 2", "0 close 0 = 0", "about 5 = 1",
                "about 6 = 1", "0 close 1 = 0", "about 5 = 1", "context 0 2 = 0", "0 close 2 = 0", "about 5 = 0", "about 6 = 0",
                "context 0 2 = NONE", "0 pipe = 10", "0 close 1 = 0", "about 6 = 1", "0 fork = 1", "0 close 0 = 0",
                "about 6 = 1", "1 leave = 0", "about 6 = 0");
    }

    private static void using() {
        S.promise("Promise 11: onHandle", "Terms 4");
        String[] acts = {"dup 0", "read 0", "list 0", "empty 0", "write 0 1", "seek 0 1"};
        for (String act : acts) {
            S.holds("USING a handle: it must be there (NO HANDLE); if p's context isn't that of its opening, handle use of "
                    + "that context.", Sentences.freeBut("handle use"), "! 0 " + act + " = NO_HANDLE", "about 1 = 0",
                    "0 switch 1 = 0", "0 open 1 8 = 0", "0 switch 0 = 0", "about 1 = 5", "! 0 " + act + " = DENIED",
                    "about 1 = 6", "last 1 = 0", "last 2 = 1", "last 3 = 4", "last 4 = 1", "about 0 = 1", "0 close 0 = 0", "0 "
                    + act + " = NO_HANDLE");
        }
        S.holds("if p's context isn't that of its opening",
                "type a;role r{a};role s{a};user u{r s};user v{r};allow * *:file*;allow * *:dir*;allow * *:process*;",
                "0 open 1 9 = 0", "0 read 0 = 256", "about 1 = 5", "0 switch 100 = 0", "0 read 0 = DENIED", "last 1 = 100",
                "last 2 = 0", "0 switch 1000 = 0", "0 read 0 = DENIED", "last 1 = 1000", "0 switch 0 = 0", "0 read 0 = 256",
                "about 0 = 2");
        S.holds("handle use of that context", FREE + "limit handle use t1!=t2;", "0 open 1 9 = 0", "0 read 0 = 256",
                "0 switch 1 = 0", "0 read 0 = 256", "about 1 = 8", "0 dup 0 = 1", "about 1 = 9", "0 open 1 9 = 2",
                "0 switch 0 = 0", "0 read 2 = 256", "0 read 1 = 256");
    }

    private static void close() {
        S.promise("Promise 11: onHandle", "Terms 4");
        S.holds("close(h): NO HANDLE if it isn't there; 0.", FREE + "limit handle use t1!=b;", "! 0 close 0 = NO_HANDLE",
                "0 close 5 = NO_HANDLE", "0 open 1 8 = 0", "0 open 1 8 = 1", "0 switch 1 = 0", "about 1 = 5", "0 close 0 = 0",
                "about 1 = 5", "about 5 = 1", "0 close 0 = NO_HANDLE", "0 close 1 = 0", "about 5 = 0", "node 1 0 = 0");
    }

    private static void dup() {
        S.promise("Promise 11: onHandle", "Terms 4");
        S.holds("dup(h): using; NO ROOM if p has six; the least handle tells the same opening.",
                Sentences.freeBut("handle use"), "0 open 1 9 = 0", "0 open 1 0 = 1", "0 open 1 0 = 2", "0 close 1 = 0",
                "0 dup 0 = 1", "0 read 1 = 256", "0 dup 2 = 3", "0 read 3 = WRONG_MODE", "0 switch 1 = 0", "0 open 1 9 = 4",
                "0 dup 4 = 5", "! 0 dup 4 = NO_ROOM", "0 switch 0 = 0", "! 0 dup 4 = DENIED", "! 0 dup 0 = NO_ROOM",
                "about 5 = 3");
    }

    private static void read() {
        S.promise("Promise 11: onHandle", "Terms 4");
        S.holds("read(h): using; WRONG MODE if it may not read", Sentences.freeBut("handle use", "file read"),
                "0 open 1 14 = 0", "! 0 read 0 = WRONG_MODE", "label 1 1", "0 read 0 = WRONG_MODE", "0 open 1 8 = 1",
                "0 read 1 = WRONG_MODE", "about 0 = 0", "0 switch 1 = 0", "0 open 1 8 = 2", "0 switch 0 = 0",
                "0 read 2 = DENIED", "last 3 = 4");
        S.holds("A file: file read of it; the byte at its place, 0 .. 255, which is one more then; 256 if it has none there.",
                Sentences.freeBut("file read"), "0 open 1 11 = 0", "0 read 0 = 256", "0 write 0 0 = 0", "0 write 0 255 = 0",
                "0 write 0 128 = 0", "! 0 read 0 = 256", "0 seek 0 0 = 0", "0 read 0 = 0", "0 read 0 = 255", "label 1 1",
                "! 0 read 0 = DENIED", "last 2 = 1", "last 3 = 0", "last 4 = 1", "label 1 0", "0 read 0 = 128",
                "0 read 0 = 256", "0 read 0 = 256", "0 write 0 7 = 0", "node 1 6 = 7", "0 seek 0 3 = 3", "0 read 0 = 7",
                "0 seek 0 24 = 24", "0 read 0 = 256");
        S.holds("256 if it has none there", FREE, "0 open 1 11 = 0", "0 seek 0 23 = 23", "0 write 0 9 = 0", "0 read 0 = 256",
                "0 seek 0 22 = 22", "0 read 0 = 0", "0 read 0 = 9", "0 read 0 = 256", "0 empty 0 = 0", "0 seek 0 0 = 0",
                "0 read 0 = 256", "0 write 0 4 = 0", "0 seek 0 5 = 5", "0 read 0 = 256", "0 seek 0 0 = 0", "0 read 0 = 4");
        S.holds("A directory: IS DIRECTORY.", Sentences.freeBut("dir read", "file read"), "0 mkdir 1 = 1", "0 open 1 1 = 0",
                "label 1 1", "about 1 = 5", "! 0 read 0 = IS_DIRECTORY", "about 1 = 5", "0 open 0 1 = 1",
                "0 read 1 = IS_DIRECTORY", "0 list 1 = 1");
    }

    private static void readPipe() {
        S.promise("Promise 11: onHandle", "Terms 4");
        String words = "a pipe: pipe read of its context, its first byte, which goes; without bytes WAITS if there is an "
                + "opening that may write to it, otherwise 256.";
        S.holds(words, FREE, "0 pipe = 10", "! 0 read 0 = WAITS", "0 write 1 255 = 0", "0 write 1 0 = 0", "0 read 0 = 255",
                "0 write 1 3 = 0", "0 read 0 = 0", "0 read 0 = 3", "0 read 0 = WAITS", "0 dup 1 = 2", "0 close 1 = 0",
                "0 read 0 = WAITS", "0 write 2 4 = 0", "0 close 2 = 0", "0 read 0 = 4", "! 0 read 0 = 256", "0 read 0 = 256");
        S.holds("without bytes WAITS if there is an opening that may write to it", FREE, "0 pipe = 10", "0 pipe = 32",
                "0 fork = 1", "0 close 1 = 0", "0 read 0 = WAITS", "1 leave = 0", "0 read 0 = 256", "0 open 1 10 = 1",
                "0 read 0 = 256", "0 read 2 = WAITS");
        S.holds("pipe read of its context, its first byte, which goes", Sentences.freeBut("pipe read"), "0 switch 1 = 0",
                "0 pipe = 10", "0 write 1 65 = 0", "0 switch 0 = 0", "! 0 read 0 = DENIED", "last 1 = 0", "last 2 = 1",
                "last 3 = 3", "last 4 = 1", "about 0 = 1", "! 0 read 1 = WRONG_MODE", "about 0 = 1", "text " + FREE,
                "load = NONE", "0 read 0 = 65", "0 read 0 = WAITS");
        S.holds("pipe read of its context", Sentences.freeBut("pipe read"), "0 switch 1 = 0", "0 pipe = 10", "0 switch 0 = 0",
                "0 read 0 = DENIED", "0 close 1 = 0", "0 read 0 = DENIED", "0 pipe = 21", "0 switch 1 = 0", "0 read 1 = WAITS");
        S.holds("A pipe has a context and holds up to eight bytes.", FREE, "0 switch 1 = 0", "0 pipe = 10", "context 0 2 = 1",
                "8* 0 write 1 % = 0", "0 write 1 9 = WAITS", "0 read 0 = 1", "0 write 1 9 = 0", "0 write 1 10 = WAITS",
                "8* 0 read 0", "0 read 0 = WAITS", "8* 0 write 1 % = 0", "8* 0 read 0 = %");
        S.holds("A pipe has a context and holds up to eight bytes.", FREE, "0 pipe = 10", "0 pipe = 32", "0 fork = 1",
                "1 close 0 = 0", "3* 1 close %", "1 pipe = 10", "1 pipe = 32", "8* 0 write 1 1% = 0", "8* 0 write 3 2% = 0",
                "8* 1 write 1 3% = 0", "8* 1 write 3 4% = 0", "0 write 1 9 = WAITS", "0 write 3 9 = WAITS",
                "1 write 1 9 = WAITS", "1 write 3 9 = WAITS", "8* 1 read 2 = 4%", "8* 1 read 0 = 3%", "8* 0 read 2 = 2%",
                "8* 0 read 0 = 1%", "0 read 0 = WAITS", "1 read 2 = WAITS");
    }

    private static void list() {
        S.promise("Promise 11: onHandle", "Terms 4");
        S.holds("list(h): using; NO DIRECTORY if it isn't of one; dir read of it", Sentences.freeBut("handle use", "dir read",
                "file read"), "0 open 1 9 = 0", "label 1 1", "about 1 = 4", "! 0 list 0 = NO_DIRECTORY", "about 1 = 4",
                "0 pipe = 21", "0 list 1 = NO_DIRECTORY", "0 list 2 = NO_DIRECTORY", "0 switch 1 = 0", "0 open 1 8 = 3",
                "0 switch 0 = 0", "0 list 3 = DENIED", "last 3 = 4", "0 open 0 1 = 4", "label 0 1", "! 0 list 4 = DENIED",
                "last 2 = 1", "last 3 = 1", "last 4 = 1", "label 0 0", "0 list 4 = 1");
        S.holds("the name at its place, which is one more then; 256 behind the last one", FREE, "0 open 0 1 = 0",
                "0 list 0 = 256", "9* 0 mkdir %", "0 mkdir 99 = 10", "9* 0 list 0 = %", "0 list 0 = 99", "! 0 list 0 = 256",
                "0 list 0 = 256", "0 rmdir 1 = 0", "0 list 0 = 256", "0 seek 0 8 = 8", "0 list 0 = 99", "0 mkdir 7 = EXISTS",
                "0 mkdir 77 = 1", "0 list 0 = 77", "0 seek 0 24 = 24", "0 list 0 = 256", "0 seek 0 9 = 9", "0 list 0 = 77",
                "0 list 0 = 256");
        S.holds("the name at its place", FREE, "0 mkdir 1 = 1", "0 mkdir 56 = 2", "0 mkdir 2 = 3", "0 open 0 1 = 0",
                "0 list 0 = 1", "0 list 0 = 56", "0 list 0 = 2", "0 list 0 = 256", "0 open 1 1 = 1", "0 list 1 = 256",
                "0 rmdir 1 = 0", "0 list 1 = 256");
    }

    private static void empty() {
        S.promise("Promise 11: onHandle", "Terms 4");
        S.holds("empty(h): using; WRONG MODE if it may not write, of a pipe, too; file write; no bytes; 0.",
                Sentences.freeBut("file write"), "0 open 1 14 = 0", "0 write 0 65 = 0", "0 open 1 13 = 1", "0 open 1 8 = 2",
                "0 open 0 1 = 3", "0 pipe = 54", "! 0 empty 1 = WRONG_MODE", "0 empty 2 = WRONG_MODE", "0 empty 3 = WRONG_MODE",
                "0 empty 4 = WRONG_MODE", "! 0 empty 5 = WRONG_MODE", "label 1 1", "0 empty 1 = WRONG_MODE", "about 0 = 0",
                "! 0 empty 0 = DENIED", "last 2 = 1", "last 3 = 0", "last 4 = 2", "label 1 0", "0 empty 0 = 0", "node 1 1 = 0",
                "0 empty 0 = 0");
        S.holds("empty(h): using; WRONG MODE if it may not write", Sentences.freeBut("handle use"), "0 switch 1 = 0",
                "0 open 1 8 = 0", "0 pipe = 21", "0 switch 0 = 0", "0 empty 0 = DENIED", "0 empty 2 = DENIED",
                "0 empty 3 = NO_HANDLE");
        S.holds("no bytes; 0.", FREE, "0 open 1 11 = 0", "3* 0 write 0 9 = 0", "about 4 = 4", "0 empty 0 = 0", "about 4 = 5",
                "0 read 0 = 256", "0 empty 0 = 0", "about 4 = 5", "0 write 0 8 = 0", "node 1 1 = 4", "node 1 3 = 0",
                "node 1 5 = 0", "node 1 6 = 8");
    }

    private static void onHandle() {
        S.promise("Promise 11: onHandle");
        S.holds("An act with a handle (0 .. 5): 0 close, 1 dup, 2 read, 3 list, 4 empty.", FREE, "0 open 1 11 = 0",
                "0 write 0 65 = 0", "onHandle 0 1 0 = 1", "onHandle 0 2 1 = 256", "onHandle 0 3 0 = NO_DIRECTORY",
                "onHandle 0 4 1 = 0", "node 1 1 = 0", "onHandle 0 0 1 = 0", "onHandle 0 0 1 = NO_HANDLE");
        S.holds("IllegalArgumentException also for another kind.", FREE, "0 open 1 11 = 0",
                "! onHandle 0 -1 0 = IllegalArgument", "! onHandle 0 5 0 = IllegalArgument", "onHandle 0 6 0 = IllegalArgument",
                "onHandle 0 0x7fffffff 0 = IllegalArgument", "onHandle 0 0x80000000 0 = IllegalArgument",
                "onHandle 1 5 0 = IllegalArgument");
        S.promise("Promise 11: onHandle", "Behind Terms 6");
        S.holds("Calls of acts: IllegalStateException if there is no policy, ahead of all else", "",
                "onHandle 0 0 0 = IllegalState", "onHandle 8 0 0 = IllegalState", "onHandle 0 5 0 = IllegalState",
                "onHandle 0 0 6 = IllegalState", "onHandle 1 0 0 = IllegalState");
        for (int kind = 0; kind < 5; kind++) {
            String call = "onHandle 0 " + kind + " ";
            S.holds("numbers of processes are 0 .. 7, of handles 0 .. 5", FREE, "0 open 1 11 = 0", "! " + call
                    + "6 = IllegalArgument", "! " + call + "-1 = IllegalArgument", call + "5 = NO_HANDLE", call
                    + "0x7fffffff = IllegalArgument", call + "0x80000000 = IllegalArgument", "onHandle 8 " + kind
                    + " 0 = IllegalArgument", "onHandle -1 " + kind + " 0 = IllegalArgument", "onHandle 7 " + kind
                    + " 0 = NoSuchElement", "onHandle 1 " + kind + " 6 = IllegalArgument");
        }
    }

    private static void write() {
        S.promise("Promise 12: write", "Terms 4");
        S.holds("write(h, b): using; WRONG MODE if it may neither write nor append", Sentences.freeBut("handle use",
                "file{write append}"), "0 open 1 9 = 0", "0 open 1 8 = 1", "0 open 0 1 = 2", "! 0 write 0 1 = WRONG_MODE",
                "0 write 1 1 = WRONG_MODE", "0 write 2 1 = WRONG_MODE", "label 1 1", "0 write 0 1 = WRONG_MODE", "about 0 = 0",
                "0 switch 1 = 0", "0 open 1 9 = 3", "0 switch 0 = 0", "0 write 3 1 = DENIED", "last 3 = 4",
                "0 write 5 1 = NO_HANDLE");
        S.holds("a file: file append if it may append, otherwise file write", Sentences.freeBut("file write"),
                "0 open 1 14 = 0", "0 open 1 10 = 1", "0 open 1 4 = 2", "label 1 1", "0 write 0 1 = 0",
                "! 0 write 1 1 = DENIED", "last 2 = 1", "last 3 = 0", "last 4 = 2", "0 write 2 1 = 0", "node 1 1 = 2");
        S.holds("a file: file append if it may append, otherwise file write", Sentences.freeBut("file append"),
                "0 open 1 14 = 0", "0 open 1 10 = 1", "0 open 1 4 = 2", "label 1 1", "! 0 write 0 1 = DENIED", "last 4 = 4",
                "0 write 1 1 = 0", "0 write 2 1 = DENIED", "node 1 1 = 1");
        S.holds("the byte (lowest eight bits) at its end if it may append (its place stays)", FREE, "0 open 1 15 = 0",
                "0 write 0 256 = 0", "0 write 0 511 = 0", "0 write 0 -1 = 0", "0 write 0 0x80000080 = 0", "node 1 3 = 0",
                "node 1 4 = 255", "node 1 5 = 255", "node 1 6 = 128", "0 read 0 = 0", "0 write 0 7 = 0", "0 read 0 = 255",
                "0 seek 0 1 = 1", "0 write 0 8 = 0", "node 1 8 = 8", "0 read 0 = 255", "node 1 1 = 6", "0 seek 0 24 = 24",
                "0 write 0 9 = 0", "node 1 9 = 9");
        S.holds("otherwise at its place, which is one more then (bytes between its end and that are 0). 0.", FREE,
                "0 open 1 11 = 0", "0 write 0 -1 = 0", "0 write 0 258 = 0", "node 1 3 = 255", "node 1 4 = 2", "0 seek 0 0 = 0",
                "0 write 0 5 = 0", "node 1 3 = 5", "node 1 1 = 2", "0 read 0 = 2", "0 seek 0 5 = 5", "0 write 0 6 = 0",
                "node 1 1 = 6", "node 1 5 = 0", "node 1 6 = 0", "node 1 7 = 0", "node 1 8 = 6", "0 read 0 = 256",
                "0 write 0 7 = 0", "node 1 9 = 7", "0 empty 0 = 0", "0 seek 0 2 = 2", "0 write 0 1 = 0", "node 1 3 = 0",
                "node 1 4 = 0", "node 1 5 = 1", "node 1 1 = 3");
        S.promise("Promise 12: write", "Behind Terms 6");
        S.holds("Calls of acts: IllegalStateException if there is no policy, ahead of all else", "",
                "0 write 0 1 = IllegalState", "8 write 0 1 = IllegalState", "0 write 6 1 = IllegalState");
        S.holds("numbers of processes are 0 .. 7, of handles 0 .. 5", FREE, "0 open 1 10 = 0",
                "! 0 write 6 1 = IllegalArgument", "! 0 write -1 1 = IllegalArgument", "0 write 5 1 = NO_HANDLE",
                "8 write 0 1 = IllegalArgument", "-1 write 0 1 = IllegalArgument", "1 write 0 1 = NoSuchElement",
                "7 write 6 1 = IllegalArgument", "0 write 0x7fffffff 1 = IllegalArgument",
                "0 write 0x80000000 1 = IllegalArgument", "0 write 0 0x7fffffff = 0");
    }

    private static void writePipe() {
        S.promise("Promise 12: write", "Terms 4");
        S.holds("a pipe: pipe write; BROKEN if no opening may read from it; WAITS if it holds eight", FREE, "0 pipe = 10",
                "! 0 write 0 1 = WRONG_MODE", "7* 0 write 1 % = 0", "0 write 1 0x1ff = 0", "! 0 write 1 9 = WAITS",
                "7* 0 read 0 = %", "0 read 0 = 255", "8* 0 write 1 % = 0", "0 dup 0 = 2", "0 close 0 = 0",
                "0 write 1 9 = WAITS", "0 read 2 = 1", "0 write 1 9 = 0", "0 close 2 = 0", "! 0 write 1 9 = BROKEN");
        S.holds("pipe write; BROKEN if no opening may read from it", Sentences.freeBut("pipe write"), "0 switch 1 = 0",
                "0 pipe = 10", "0 switch 0 = 0", "! 0 write 1 1 = DENIED", "last 1 = 0", "last 2 = 1", "last 3 = 3",
                "last 4 = 2", "0 write 0 1 = WRONG_MODE", "0 close 0 = 0", "0 write 1 1 = DENIED", "0 switch 1 = 0",
                "0 write 1 1 = DENIED");
        S.holds("BROKEN if no opening may read from it", FREE, "0 pipe = 10", "0 pipe = 32", "0 fork = 1", "0 close 0 = 0",
                "0 write 1 1 = 0", "1 leave = 0", "! 0 write 1 1 = BROKEN", "0 write 3 1 = 0", "0 open 1 9 = 0",
                "0 write 1 1 = BROKEN", "about 4 = 1");
    }

    private static void writeFull() {
        S.promise("Promise 12: write", "Terms 4");
        S.holds("NO ROOM if it would have more than 24", Sentences.freeBut("file{write append}"), "0 open 1 11 = 0",
                "0 open 1 4 = 1", "23* 0 write 0 % = 0", "0 write 1 24 = 0", "node 1 1 = 24", "! 0 write 1 1 = NO_ROOM",
                "0 write 0 99 = 0", "node 1 26 = 99", "! 0 write 0 1 = NO_ROOM", "0 read 0 = 256", "label 1 1",
                "0 write 0 1 = DENIED", "0 write 1 1 = DENIED", "label 1 0", "0 seek 0 0 = 0", "0 write 0 98 = 0",
                "node 1 1 = 24", "node 1 3 = 98", "0 read 0 = 2");
        S.holds("NO ROOM if it would have more than 24", FREE, "0 open 1 11 = 0", "0 seek 0 24 = 24", "! 0 write 0 1 = NO_ROOM",
                "node 1 1 = 0", "about 4 = 1", "0 seek 0 23 = 23", "0 write 0 1 = 0", "node 1 1 = 24", "0 seek 0 5 = 5",
                "0 write 0 7 = 0", "node 1 1 = 24", "about 4 = 3");
        S.promise("Promise 12: write", "Terms 3");
        S.holds("each is a FILE, with up to 24 bytes", FREE, "0 open 1 12 = 0", "24* 0 write 0 % = 0", "node 1 1 = 24",
                "node 1 3 = 1", "node 1 26 = 24", "node 1 27 = NoSuchElement", "0 write 0 25 = NO_ROOM", "node 1 1 = 24");
    }

    private static void seek() {
        S.promise("Promise 13: seek", "Terms 4");
        S.holds("seek(h, at): (IllegalArgument if at is not 0 .. 24, ahead of all;) using; WRONG MODE of a pipe; the place.",
                FREE, "0 open 1 9 = 0", "24* 0 seek 0 % = %", "0 seek 0 0 = 0", "! 0 seek 0 25 = IllegalArgument",
                "! 0 seek 0 -1 = IllegalArgument", "0 seek 5 25 = IllegalArgument", "1 seek 0 25 = IllegalArgument",
                "0 seek 0 0x7fffffff = IllegalArgument", "0 seek 0 0x80000000 = IllegalArgument", "0 seek 5 24 = NO_HANDLE");
        S.holds("using; WRONG MODE of a pipe", Sentences.freeBut("handle use"), "0 pipe = 10", "! 0 seek 0 0 = WRONG_MODE",
                "0 seek 1 24 = WRONG_MODE", "0 seek 1 25 = IllegalArgument", "0 switch 1 = 0", "0 pipe = 32", "0 open 1 9 = 4",
                "0 switch 0 = 0", "0 seek 2 0 = DENIED", "0 seek 3 25 = IllegalArgument", "0 seek 4 0 = DENIED", "about 0 = 2");
        S.holds("the place", FREE, "0 open 1 11 = 0", "5* 0 write 0 % = 0", "0 seek 0 3 = 3", "0 read 0 = 4", "0 open 1 0 = 1",
                "0 seek 1 9 = 9", "0 read 0 = 5", "0 mkdir 2 = 2", "0 open 0 1 = 2", "0 seek 2 1 = 1", "0 list 2 = 2",
                "0 seek 2 0 = 0", "0 list 2 = 1", "about 4 = 7");
        S.promise("Promise 13: seek", "Behind Terms 6");
        S.holds("Calls of acts: IllegalStateException if there is no policy, ahead of all else", "",
                "0 seek 0 0 = IllegalState", "0 seek 0 25 = IllegalState", "8 seek 0 0 = IllegalState",
                "0 seek 6 0 = IllegalState");
        S.holds("numbers of processes are 0 .. 7, of handles 0 .. 5", FREE, "0 open 1 9 = 0", "! 0 seek 6 0 = IllegalArgument",
                "! 0 seek -1 0 = IllegalArgument", "0 seek 5 0 = NO_HANDLE", "8 seek 0 0 = IllegalArgument",
                "-1 seek 0 0 = IllegalArgument", "7 seek 0 0 = NoSuchElement", "7 seek 6 0 = IllegalArgument",
                "0 seek 0x7fffffff 0 = IllegalArgument", "0 seek 0x80000000 0 = IllegalArgument");
    }
}
