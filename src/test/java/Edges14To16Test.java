/** The edges of promises 14 to 16, sentence by sentence: alone, onProcess and switchTo. */
public final class Edges14To16Test {
    private static final Sentences S = new Sentences();
    private static final String FREE = Sentences.FREE;

    public static void main(String[] args) {
        fork();
        pipe();
        pipeRoom();
        leave();
        alone();
        signal();
        trace();
        onProcess();
        switchTo();
        S.finish();
    }

    private static void fork() {
        S.promise("Promise 14: alone", "Terms 4");
        S.holds("PROCESSES 0 .. 7 are there or not", FREE, "context 7 0 = NONE", "7* 0 fork = %", "context 7 0 = 0",
                "context 8 0 = IllegalArgument", "! 0 fork = NO_ROOM", "0 leave = 0", "context 0 0 = NONE", "7 fork = 0");
        S.holds("fork(): process fork of its own; NO ROOM if there are eight", Sentences.freeBut("process fork"),
                "6* 0 fork = %", "0 switch 1 = 0", "! 0 fork = DENIED", "last 1 = 1", "last 2 = 1", "last 3 = 2", "last 4 = 1",
                "1 fork = 7", "! 1 fork = NO_ROOM", "! 0 fork = DENIED", "3 leave = 0", "1 fork = 3");
        S.holds("the new one, the least number, has p's context and handles (of the same openings)", FREE, "0 open 1 11 = 0",
                "0 pipe = 21", "0 close 1 = 0", "0 switch 1 = 0", "0 fork = 1", "context 1 0 = 1", "about 5 = 2",
                "1 write 0 65 = 0", "1 write 0 66 = 0", "0 seek 0 0 = 0", "1 read 0 = 65", "0 read 0 = 66",
                "1 close 1 = NO_HANDLE", "1 close 3 = NO_HANDLE", "1 write 2 1 = BROKEN", "0 close 0 = 0", "1 seek 0 0 = 0",
                "about 5 = 2", "1 close 0 = 0", "about 5 = 1", "1 fork = 2", "1 leave = 0", "2 fork = 1", "2 fork = 3");
    }

    private static void pipe() {
        S.promise("Promise 14: alone", "Terms 4");
        S.holds("pipe(): pipe create of p's own context, which the pipe has then", Sentences.freeBut("pipe create"),
                "0 pipe = 10", "context 0 2 = 0", "0 switch 1 = 0", "context 0 2 = 0", "! 0 pipe = DENIED", "last 1 = 1",
                "last 2 = 1", "last 3 = 3", "last 4 = 4", "about 6 = 1", "about 5 = 2");
        S.holds("which the pipe has then", FREE, "0 switch 1 = 0", "0 pipe = 10", "0 switch 0 = 0", "0 pipe = 32",
                "context 0 2 = 1", "context 1 2 = 0", "context 2 2 = NONE");
        S.holds("The least handle reads from it, the next one writes to it: ten times the second one and the first.", FREE,
                "0 pipe = 10", "0 write 1 7 = 0", "0 write 0 7 = WRONG_MODE", "0 read 0 = 7", "0 read 1 = WRONG_MODE",
                "0 open 1 8 = 2", "0 open 1 8 = 3", "0 open 1 8 = 4", "0 close 1 = 0", "0 pipe = 51", "0 write 5 8 = 0",
                "0 read 1 = 8", "0 close 0 = 0", "0 close 4 = 0", "0 pipe = 40", "0 write 4 9 = 0", "0 read 0 = 9",
                "0 read 1 = WAITS");
    }

    private static void pipeRoom() {
        S.promise("Promise 14: alone", "Terms 4");
        S.holds("NO ROOM if there are four pipes", Sentences.freeBut("pipe create"), "0 pipe = 10", "0 pipe = 32", "0 fork = 1",
                "1 close 0 = 0", "3* 1 close %", "0 fork = 2", "2 close 0 = 0", "3* 2 close %", "1 pipe = 10", "2 pipe = 10",
                "about 6 = 4", "about 5 = 8", "! 2 pipe = NO_ROOM", "2 switch 1 = 0", "2 pipe = DENIED", "2 switch 0 = 0",
                "1 leave = 0", "about 6 = 3", "2 pipe = 32", "context 2 2 = 0", "about 6 = 4");
        S.holds("more than 14 openings", Sentences.freeBut("pipe create"), "6* 0 open 1 8", "0 fork = 1", "1 close 0 = 0",
                "5* 1 close %", "6* 1 open 1 8", "0 fork = 2", "2 close 0 = 0", "5* 2 close %", "2 open 1 8 = 0",
                "2 open 1 8 = 1", "2 open 1 8 = 2", "about 5 = 15", "! 2 pipe = NO_ROOM", "2 switch 1 = 0", "2 pipe = DENIED",
                "2 switch 0 = 0", "2 close 0 = 0", "about 5 = 14", "2 pipe = 30", "about 5 = 16");
        S.holds("or p has more than four handles", Sentences.freeBut("pipe create"), "0 open 1 8 = 0", "4* 0 dup 0",
                "! 0 pipe = NO_ROOM", "0 switch 1 = 0", "0 pipe = DENIED", "0 switch 0 = 0", "0 close 2 = 0", "0 pipe = 52",
                "0 pipe = NO_ROOM", "about 6 = 1");
        S.holds("four PIPES, are there", FREE, "0 pipe = 10", "0 pipe = 32", "0 pipe = 54", "about 6 = 3", "0 fork = 1",
                "1 close 0 = 0", "5* 1 close %", "1 pipe = 10", "about 6 = 4", "context 3 2 = 0", "1 pipe = NO_ROOM");
    }

    private static void leave() {
        S.promise("Promise 14: alone", "Terms 4");
        S.holds("leave(): p ends; 0. (Who ends loses all handles.)",
                "type a;role r{a};user u{r};allow * *:file*;allow * *:dir*;allow * *:pipe*;", "6* 0 open 1 8", "0 unlink 1 = 0",
                "about 5 = 6", "about 1 = 11", "0 leave = 0", "about 1 = 11", "about 5 = 0", "context 0 0 = NONE",
                "node 1 0 = NoSuchElement", "0 leave = NoSuchElement", "0 fork = NoSuchElement", "crash 0",
                "0 close 0 = NO_HANDLE", "0 pipe = 10", "0 leave = 0", "about 6 = 0");
    }

    private static void alone() {
        S.promise("Promise 14: alone");
        S.holds("An act of p alone: 0 fork, 1 pipe, 2 leave.", FREE, "alone 0 0 = 1", "alone 0 1 = 10", "alone 0 2 = 0",
                "context 0 0 = NONE", "context 1 0 = 0");
        S.holds("IllegalArgumentException also for another kind.", FREE, "! alone 0 -1 = IllegalArgument",
                "! alone 0 3 = IllegalArgument", "alone 0 0x7fffffff = IllegalArgument", "alone 0 0x80000000 = IllegalArgument",
                "alone 1 3 = IllegalArgument", "context 0 0 = 0");
        S.promise("Promise 14: alone", "Behind Terms 6");
        S.holds("Calls of acts: IllegalStateException if there is no policy, ahead of all else", "", "alone 0 0 = IllegalState",
                "alone 8 0 = IllegalState", "alone 0 3 = IllegalState", "alone 1 2 = IllegalState");
        S.holds("numbers of processes are 0 .. 7", FREE, "! alone 8 0 = IllegalArgument", "! alone -1 2 = IllegalArgument",
                "! alone 1 2 = NoSuchElement", "alone 7 1 = NoSuchElement", "alone 0x7fffffff 0 = IllegalArgument",
                "alone 0x80000000 0 = IllegalArgument");
    }

    private static void signal() {
        S.promise("Promise 15: onProcess", "Terms 4");
        S.holds("signal(q): process signal of q's context; q (which may be p) ends; 0.", Sentences.freeBut("process signal"),
                "0 pipe = 10", "0 fork = 1", "0 fork = 2", "0 close 0 = 0", "0 close 1 = 0", "1 switch 1 = 0",
                "! 0 signal 1 = DENIED", "last 1 = 0", "last 2 = 1", "last 3 = 2", "last 4 = 4", "1 signal 2 = 0",
                "context 2 0 = NONE", "about 5 = 2", "1 signal 1 = DENIED", "1 switch 0 = 0", "0 signal 1 = 0", "about 5 = 0",
                "about 6 = 0", "context 1 0 = NONE", "0 signal 0 = 0", "context 0 0 = NONE", "0 signal 0 = NoSuchElement");
    }

    private static void trace() {
        S.promise("Promise 15: onProcess", "Terms 4");
        S.holds("trace(q): process trace of q's; 0.", Sentences.freeBut("process trace"), "0 fork = 1", "1 switch 1 = 0",
                "! 0 trace 1 = DENIED", "last 1 = 0", "last 2 = 1", "last 3 = 2", "last 4 = 8", "! 1 trace 0 = 0",
                "0 trace 0 = 0", "1 trace 1 = DENIED", "context 1 0 = 1", "about 0 = 2", "about 1 = 6");
    }

    private static void onProcess() {
        S.promise("Promise 15: onProcess");
        S.holds("An act on process q, which may be p itself: 0 signal, 1 trace.", FREE, "0 fork = 1", "onProcess 0 1 1 = 0",
                "onProcess 0 1 0 = 0", "context 1 0 = 0", "onProcess 0 0 1 = 0", "context 1 0 = NONE", "onProcess 0 0 0 = 0",
                "context 0 0 = NONE");
        S.holds("IllegalArgumentException also for another kind.", FREE, "! onProcess 0 -1 0 = IllegalArgument",
                "! onProcess 0 2 0 = IllegalArgument", "onProcess 0 0x7fffffff 0 = IllegalArgument",
                "onProcess 0 0x80000000 0 = IllegalArgument", "onProcess 1 2 0 = IllegalArgument",
                "onProcess 0 2 1 = IllegalArgument");
        S.promise("Promise 15: onProcess", "Behind Terms 6");
        S.holds("Calls of acts: IllegalStateException if there is no policy, ahead of all else", "",
                "onProcess 0 0 0 = IllegalState", "onProcess 8 0 0 = IllegalState", "onProcess 0 2 0 = IllegalState",
                "onProcess 0 0 8 = IllegalState");
        S.holds("then NoSuchElementException if there is no process p (or q); numbers of processes are 0 .. 7", FREE,
                "! onProcess 0 0 8 = IllegalArgument", "onProcess 0 1 -1 = IllegalArgument",
                "! onProcess 0 0 7 = NoSuchElement", "onProcess 0 1 1 = NoSuchElement", "onProcess 1 1 0 = NoSuchElement",
                "onProcess 8 1 0 = IllegalArgument", "onProcess -1 0 0 = IllegalArgument", "onProcess 1 0 8 = IllegalArgument",
                "onProcess 8 0 1 = IllegalArgument", "onProcess 0 1 0x7fffffff = IllegalArgument",
                "onProcess 0 1 0x80000000 = IllegalArgument", "about 1 = 0", "onProcess 7 0 7 = NoSuchElement");
    }

    private static void switchTo() {
        S.promise("Promise 16: switchTo", "Terms 4");
        S.holds("switchTo(context): NO CONTEXT; process switch of it; p has it; 0.", FREE + "limit process switch t2==a;",
                "! 0 switch 2 = NO_CONTEXT", "0 switch 3 = NO_CONTEXT", "0 switch 32 = NO_CONTEXT", "0 switch 96 = NO_CONTEXT",
                "0 switch 100 = NO_CONTEXT", "0 switch 1000 = NO_CONTEXT", "0 switch 0x7fffffff = NO_CONTEXT", "about 1 = 0",
                "! 0 switch 1 = DENIED", "last 1 = 0", "last 2 = 1", "last 3 = 2", "last 4 = 16", "context 0 0 = 0",
                "0 switch 0 = 0", "about 1 = 2");
        S.holds("process switch of it; p has it; 0.",
                "type a;type b;role r{a b};role s{b};user u{r s};user v{s};allow * *:process switch;", "0 switch 1101 = 0",
                "context 0 0 = 1101", "0 switch 101 = 0", "context 0 0 = 101", "0 switch 100 = NO_CONTEXT", "context 0 0 = 101",
                "0 switch 0 = 0", "context 0 0 = 0");
        S.promise("Promise 16: switchTo");
        S.holds("IllegalArgumentException if it is below 0.", FREE, "! 0 switch -1 = IllegalArgument",
                "! 0 switch 0x80000000 = IllegalArgument", "1 switch -1 = IllegalArgument", "0 switch 0 = 0");
        S.promise("Promise 16: switchTo", "Behind Terms 6");
        S.holds("Calls of acts: IllegalStateException if there is no policy, ahead of all else", "",
                "0 switch 0 = IllegalState", "0 switch -1 = IllegalState", "8 switch 0 = IllegalState");
        S.holds("then NoSuchElementException if there is no process p", FREE, "1 switch 0 = NoSuchElement",
                "7 switch 2 = NoSuchElement", "8 switch 0 = IllegalArgument", "-1 switch 0 = IllegalArgument",
                "! 7 switch 1 = NoSuchElement");
    }
}
