/** The edges of promises 22 and 23, sentence by sentence: events and result. */
public final class Edges22To23Test {
    private static final Sentences S = new Sentences();
    private static final String FREE = Sentences.FREE;
    private static final String LEAST = "type a;role r{a};user u{r};";
    private static final String[] NO_NUMBER = {"fork", "pipe", "leave"};
    private static final String[] ONE_NUMBER = {"look", "mkdir", "rmdir", "unlink", "run", "close", "dup", "read", "list",
            "empty", "switch", "signal", "trace"};
    private static final String[] TWO_NUMBERS = {"open", "link", "rename", "relabel", "write", "seek"};

    public static void main(String[] args) {
        tokens();
        words();
        faults();
        calls();
        exceptions();
        events();
        result();
        S.finish();
    }

    private static void tokens() {
        S.promise("Promise 22: events", "Terms 6");
        S.faultsOfEvents("A text may also be EVENTS, none or some, each up to its ; :", "", " ", "\n", "#", "sync;",
                "sync;sync;", "sync;0fork;sync;", "^;", "sync;^;", "sync^", "sync ^sync;", "0 fork^", "0 fork;0 fork^");
        S.faultsOfEvents("WORDS (small letters, as many as there are)", "sync;", "^syncs;", "^syn;", "^syncsync;", "0look1;",
                "0 ^looks1;", "0 ^lookmkdir 1;", "0 ^Look 1;", "0 look ^A;", "^Sync;", "^sYnc;", "0 ^forkfork;",
                "0 ^makedirectory 1;", "^abcdefghijklmnopqrst;", "0 ^abcdefghij 1;", "sync^_;", "0 fork^_;", "0 ^`;", "0 ^{;",
                "0 look ^`;", "crash^{0;");
        S.faultsOfEvents("NUMBERS (one to eight digits)", "0fork;", "9fork;", "00000000 fork;", "12345678 fork;",
                "^123456789 fork;", "^000000000 fork;", "0 look 99999999;", "0 look ^100000000;", "0 look ^000000001;",
                "0 look ^-1;", "^-1 fork;", "0 look ^+1;", "0 look 1^.5;", "0 look 0^x1;", "crash 00000000;",
                "crash ^000000000;", "0 look ^/;", "0 look ^:;", "0 look 1^/;", "0 look 1^:;", "label ^999999999 0;",
                "0 ^4294967296;", "0 look ^4294967296;", "0 look ^18446744073709551616;");
        S.faultsOfEvents("blanks and line ends between where needed", "0 look 1 ;", "0\nlook\n1\n;\n", "  0  look  1  ;  ",
                "0look1;0look1;", "0 look 1;0 look 1;", "0 open 18^;", "0 open 1 8;", "0 ^loo k 1;", "0 open 1\n8;",
                "0 ^0fork;");
        S.faultsOfEvents("what is behind a # up to the line's end doesn't count", "#sync", "#;\n", "sync#;\n;", "sync;#",
                "sync#;^", "#\n^x", "0#1\nlook#2\n1#3\n;#4", "sync;#;;\n^;", "##\nsync;#", "sync#\n^sync;", "0 look 1#;^");
    }

    private static void words() {
        S.promise("Promise 22: events", "Terms 6");
        String with = "With a process: look, mkdir, rmdir, unlink, run (a path); open (a path, a mode); link, rename (two "
                + "paths); relabel (a path, a context); " + "close, dup, read, list, empty (a handle); write (a handle, a "
                + "byte); seek (a handle, a place); switch (a context); signal, trace (a process); fork, pipe, leave (none).";
        for (String word : NO_NUMBER) {
            S.faultsOfEvents(with, "0 " + word + ";", "0 " + word + " ^1;", "0 " + word + "^", "^" + word + ";", "0 " + word
                    + " ^" + word + ";");
        }
        for (String word : ONE_NUMBER) {
            S.faultsOfEvents(with, "0 " + word + " 1;", "0 " + word + "^;", "0 " + word + " 1 ^1;", "0 " + word + " 1^", "0 "
                    + word + "^", "^" + word + " 1;", "0 " + word + " ^fork;");
        }
        for (String word : TWO_NUMBERS) {
            S.faultsOfEvents(with, "0 " + word + " 1 1;", "0 " + word + " 1^;", "0 " + word + "^;", "0 " + word + " 1 1 ^1;",
                    "0 " + word + " 1 1^", "0 " + word + " 1^", "^" + word + " 1 1;");
        }
        S.faultsOfEvents("Without: sync; crash (how many deeds are left); label (a node, a context).", "sync;", "sync ^1;",
                "sync^", "0 ^sync;", "crash 1;", "crash^;", "crash 1 ^1;", "crash^", "0 ^crash 1;", "label 1 1;", "label 1^;",
                "label^;", "label 1 1 ^1;", "label 1 1^", "0 ^label 1 1;", "^fork;", "^look 1;", "^load;", "^events;", "^put;");
        S.faultsOfEvents("or of a word that is none of these there", "^a;", "0 ^a;", "^type a;", "0 ^type;", "0 ^mkdirs 1;",
                "0 ^onpath 1;", "0 ^make 1;", "0 ^switchto 1;", "0 ^end;", "^end;");
    }

    private static void faults() {
        S.promise("Promise 22: events", "Terms 6");
        S.faultsOfEvents("The FAULT of a text: the first place of a token (or sign that begins none, or number that is too "
                + "long) that can't come there", "^,", "0^,", "sync^,", "0 look 1^,1;", "^?", "0 ^?", "0 look ^?", "0 look 1^?",
                "sync;^?", "0 ^0 look 1;", "0 look ^look 1;", "0 look 1 ^1;x", "^fork;0 look;", "0 fork;0 ^bad;0 bad;", "^(;",
                "^*", "0 look 1;^x 2;", "0 fork ^0 fork;");
        S.faultsOfEvents("the end is a token, too", "0^", "0 ^", "0 look^", "0 look 1^", "0 look 1  ^", "0 look 1\n^",
                "0 look 1#;^", "sync;0^", "label^", "label 1^", "label 1 1 #\n^");
    }

    private static void calls() {
        S.promise("Promise 22: events", "Terms 6");
        results("They are DONE in order; each has a RESULT: what the call tells (sync, crash, label 0)", FREE,
                "0 open 1 11; 0 write 0 321; 0 seek 0 0; 0 read 0; 0 read 0; 0 look 1; 0 dup 0; 0 empty 1; 0 look 1; 0 close "
                + "1; 0 close 1;", 0, 0, 0, 65, 256, 102, 1, 0, 100, 0, -9);
        results("what the call tells (sync, crash, label 0)", FREE,
                "0 mkdir 2; 0 open 102 8; 0 link 102 3; 0 rename 3 202; 0 look 202; 0 unlink 102; 0 rmdir 2; 0 relabel 202 1; "
                + "label 1 1; sync; crash 0; " + "0 open 0 1; 0 list 0; 0 list 0; 0 run 202;", 1, 0, 0, 0, 200, 0, -8, 0, 0, 0,
                0, 0, 2, 256, 0);
        results("what the call tells", FREE, "0 pipe; 0 write 1 7; 0 read 0; 0 read 0; 0 fork; 1 switch 1; 1 trace 0; 0 "
                + "signal 1; 1 fork; 0 leave; 0 fork; crash 0; 0 fork;", 10, 0, 7, -12, 1, 0, 0, 0, -101, 0, -101, 0, 1);
        results("They are DONE in order", FREE,
                "0 look 1; 0 mkdir 1; 0 look 1; 0 rmdir 1; 0 look 1; 0 mkdir 1; 0 mkdir 2; crash 3; 0 look 1; 0 look 2;", -3, 1,
                101, 0, -3, 1, 2, 0, 101, -3);
    }

    private static void results(String words, String policy, String text, int... due) {
        String[] lines = new String[4 + due.length];
        lines[0] = "text " + text;
        lines[1] = "events = NONE";
        lines[2] = "result -1 = " + due.length;
        lines[3] = "result " + due.length + " = IndexOutOfBounds";
        for (int i = 0; i < due.length; i++) {
            lines[4 + i] = "result " + i + " = " + due[i];
        }
        S.holds(words, policy, lines);
    }

    private static void exceptions() {
        S.promise("Promise 22: events", "Terms 6");
        String words = "-100 if it throws IllegalArgumentException, -101 NoSuchElementException, -102 IllegalStateException.";
        results(words, "", "0 fork; 9 fork; 1 look 100; sync; crash 0; crash 9; label 0 0; label 99 0; 0 seek 0 99;", -102,
                -102, -102, 0, -102, -102, -102, -102, -102);
        results(words, FREE, "8 fork; 1 fork; 99999999 fork; 1 look 100; 0 look 100; 0 open 1 32; 0 open 100 1; 0 link 1 100; "
                + "0 rename 100 1; 0 close 6; 0 write 6 0; 0 seek 0 25; 0 seek 6 0; 0 signal 8;", -100, -101, -100, -100, -100,
                -100, -100, -100, -100, -100, -100, -100, -100, -100);
        results(words, FREE, "0 signal 7; 1 trace 0; 3 trace 8; crash 1; crash 0; label 32 0; label 0 2; label 1 0; label 1 "
                + "2; 0 switch 2; 0 relabel 0 2; 7 read 0; 7 read 6;", -101, -101, -100, -100, 0, -100, -100, -101, -100, -11,
                -11, -101, -100);
        S.holds("each has a RESULT", FREE, "text 0 mkdir 1; 0 mkdir 1; 8 fork; 0 mkdir 2;", "events = NONE", "node 0 1 = 2",
                "about 4 = 2", "result 1 = EXISTS", "result 2 = -100", "result 3 = 2");
    }

    private static void events() {
        S.promise("Promise 22: events");
        S.holds("The text, which is empty then, as events, which are done: NONE; or its fault (nothing is done).", FREE,
                "events = 0", "put 0 = 0", "events = NONE", "put 0 = 0", "text 0 mkdir 1;", "events = NONE", "put 0 = 0",
                "node 0 1 = 1", "text 0 mkdir 2; 0 mkdir 3", "events = 20", "put 0 = 0", "node 0 1 = 1", "about 1 = 3",
                "text 0 mkdir 2;^", "events = 10", "put 0 = 0", "node 0 1 = 1", "events = NONE", "node 0 1 = 1",
                "policy 0 = 3");
        S.holds("or its fault (nothing is done)", FREE, "text 0 mkdir 1; sync; label 0 1; 0 fork; x", "events = 36",
                "about 4 = 0", "context 1 0 = NONE", "context 0 1 = 0", "about 1 = 0", "result -1 = 0");
        S.holds("The text, which is empty then, as events", "", "text sync;", "events = NONE", "put 0 = 0", "result -1 = 1",
                "text " + LEAST, "load = NONE", "events = 0", "put 0 = 0", "load = IllegalState");
        S.promise("Promise 22: events", "Terms 1");
        S.holds("A TEXT has at most 1200 signs", LEAST, "text " + "sync;".repeat(240), "put 0 = 1200", "events = NONE",
                "result -1 = 240", "result 239 = 0", "result 240 = IndexOutOfBounds");
        S.holds("A TEXT has at most 1200 signs", LEAST + "allow * *:process*;", "text " + "0fork;".repeat(199) + "0fork#",
                "events = 1200", "result -1 = 0", "context 1 0 = NONE", "end 0", "put 0x66306b72 = 4", "events = 0");
    }

    private static void result() {
        S.promise("Promise 23: result");
        S.holds("The result of event i of the latest events() that had no fault; how many there were if i is NONE (0 if there "
                + "was none such).", FREE, "result -1 = 0", "text x", "events = 0", "result -1 = 0",
                "text 0 mkdir 5; 0 look 5; 0 look 6;", "events = NONE", "result -1 = 3", "result 0 = 1", "result 1 = 101",
                "result 2 = NOT_THERE", "text sync; x", "events = 6", "result -1 = 3", "result 1 = 101", "text 0 look 6;",
                "events = NONE", "result -1 = 1", "result 0 = NOT_THERE", "result 1 = IndexOutOfBounds", "events = NONE",
                "result -1 = 0", "result 0 = IndexOutOfBounds");
        S.holds("the latest events() that had no fault", FREE, "text 0 mkdir 1; 0 mkdir 2; crash 1; 0 look 1;", "events = NONE",
                "0 mkdir 7 = 2", "crash 0", "result -1 = 4", "result 1 = 2", "result 3 = 101", "text " + FREE, "load = NONE",
                "result 3 = 101", "result -1 = 4");
        S.holds("IndexOutOfBoundsException for another one that isn't there.", FREE, "result 0 = IndexOutOfBounds",
                "result -2 = IndexOutOfBounds", "text sync; sync;", "events = NONE", "result 1 = 0",
                "! result 2 = IndexOutOfBounds", "result -2 = IndexOutOfBounds", "result 0x7fffffff = IndexOutOfBounds",
                "result 0x80000000 = IndexOutOfBounds", "result -1 = 2");
    }
}
