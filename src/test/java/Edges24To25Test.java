/** The edges of promises 24 and 25, sentence by sentence: sync and crash. */
public final class Edges24To25Test {
    private static final Sentences S = new Sentences();
    private static final String FREE = Sentences.FREE;
    private static final String LEAST = "type a;type b;role r{a b};user u{r};allow * *:file*;allow * *:dir*;";

    public static void main(String[] args) {
        deeds();
        noDeeds();
        sync();
        theTwoHundredth();
        left();
        doneOnceMore();
        byNumbers();
        whatGoes();
        crash();
        S.finish();
    }

    private static void deeds() {
        S.promise("Promise 24: sync", "Terms 5");
        String words = "What makes, empties, writes to and relabels nodes, links, unlinks, renames and removes, each whole, "
                + "and label(), are DEEDS";
        S.holds(words, FREE, "about 4 = 0", "0 mkdir 1 = 1", "about 4 = 1", "0 open 2 10 = 0", "about 4 = 2", "0 write 0 1 = 0",
                "about 4 = 3", "0 open 2 12 = 1", "0 write 1 1 = 0", "about 4 = 4", "0 empty 0 = 0", "about 4 = 5",
                "0 write 0 1 = 0", "about 4 = 6", "0 open 2 16 = 2", "about 4 = 7", "0 relabel 2 1 = 0", "about 4 = 8",
                "0 link 2 3 = 0", "about 4 = 9", "0 unlink 3 = 0", "about 4 = 10", "0 rename 2 101 = 0", "about 4 = 11",
                "0 rename 1 4 = 0", "about 4 = 12", "0 mkdir 5 = 3", "0 rmdir 5 = 0", "about 4 = 14", "label 0 0",
                "about 4 = 15", "0 unlink 104 = 0", "about 4 = 16");
        S.holds("each whole", FREE, "0 mkdir 1 = 1", "0 open 2 8 = 0", "sync", "0 rename 2 101 = 0", "about 4 = 1", "crash 0",
                "node 0 1 = 2", "node 1 1 = 0", "0 rename 2 101 = 0", "crash 1", "node 0 1 = 1", "node 1 3 = 201",
                "node 2 2 = 1", "0 open 101 10 = 0", "0 seek 0 5 = 5", "0 write 0 9 = 0", "about 4 = 1", "crash 1",
                "node 2 1 = 6");
        S.holds("(emptying what has no bytes isn't one, a context that it has already is one; open() with 8 and 16 is one "
                + "deed where it makes a node)", FREE, "0 open 1 26 = 0", "about 4 = 1", "0 empty 0 = 0", "about 4 = 1",
                "0 open 1 24 = 1", "about 4 = 1", "0 write 0 1 = 0", "0 open 1 24 = 2", "about 4 = 3", "0 relabel 1 0 = 0",
                "about 4 = 4", "label 1 0", "about 4 = 5", "0 open 2 24 = 3", "about 4 = 6", "crash 6", "0 look 1 = 100",
                "0 look 2 = 100");
        S.holds("a node that goes with its last handle is none", FREE, "0 open 1 8 = 0", "0 unlink 1 = 0", "about 4 = 2",
                "0 close 0 = 0", "context 1 1 = NONE", "about 4 = 2", "0 open 1 8 = 0", "0 unlink 1 = 0", "0 leave = 0",
                "about 4 = 4");
    }

    private static void noDeeds() {
        S.promise("Promise 24: sync", "Terms 5");
        S.holds("are DEEDS", FREE, "0 mkdir 1 = 1", "0 open 1 1 = 0", "0 look 1 = 101", "0 list 0 = 256", "0 seek 0 3 = 3",
                "0 dup 0 = 1", "0 close 1 = 0", "0 pipe = 21", "0 write 2 1 = 0", "0 read 1 = 1", "0 fork = 1",
                "1 switch 1 = 0", "0 trace 1 = 0", "1 leave = 0", "about 4 = 1", "0 open 2 9 = 3", "about 4 = 2",
                "0 read 3 = 256", "0 open 2 9 = 4", "0 run 2 = 0", "about 4 = 2");
        S.holds("are DEEDS", Sentences.freeBut("file{write append unlink link rename relabel}", "dir{add remove}"),
                "0 open 1 14 = 0", "0 open 1 10 = 1", "label 1 1", "label 0 1", "sync", "0 write 0 1 = DENIED",
                "0 write 1 1 = DENIED", "0 empty 0 = DENIED", "0 relabel 1 0 = DENIED", "0 mkdir 2 = DENIED",
                "0 open 2 8 = DENIED", "0 unlink 1 = DENIED", "0 link 1 2 = DENIED", "0 rename 1 2 = DENIED",
                "0 rename 9 8 = NOT_THERE", "0 rmdir 9 = NOT_THERE", "label 5 0 = NoSuchElement", "about 4 = 0");
    }

    private static void sync() {
        S.promise("Promise 24: sync");
        S.holds("Sure are all deeds (nothing without a policy).", "", "! sync = 0", "context 0 1 = NONE", "about 4 = 0", "text "
                + FREE, "load = NONE", "sync", "0 mkdir 1 = 1", "0 mkdir 2 = 2", "0 fork = 1", "about 3 = 2", "sync",
                "about 4 = 0", "context 1 0 = 0", "about 3 = 2", "crash 1 = IllegalArgument", "0 mkdir 3 = 3", "crash 0",
                "node 0 1 = 2", "sync", "crash 0", "node 0 1 = 2");
    }

    private static void theTwoHundredth() {
        S.promise("Promise 24: sync", "Terms 5");
        String words = "sync() makes all sure; so does the 200th deed behind it (there are none behind that then).";
        S.holds(words, LEAST, "198* label 0 0", "label 0 1", "about 4 = 199", "crash 199", "context 0 1 = 1", "198* label 0 0",
                "label 0 1", "about 4 = 199", "label 0 0", "about 4 = 0", "crash 1 = IllegalArgument", "label 0 1",
                "about 4 = 1", "crash 0", "context 0 1 = 0");
        S.holds(words, LEAST, "198* label 0 1", "label 0 0", "crash 0", "context 0 1 = 0", "about 4 = 0", "199* label 0 1",
                "about 4 = 199", "sync", "about 4 = 0", "label 0 0", "about 4 = 1", "crash 0", "context 0 1 = 1");
        String[] last = {"0 mkdir 2 = 3", "0 open 2 8 = 1", "0 write 0 66 = 0", "0 empty 0 = 0", "0 open 1 16 = 1",
                "0 link 1 2 = 0", "0 unlink 1 = 0", "0 rename 1 2 = 0", "0 relabel 1 1 = 0", "0 rmdir 9 = 0"};
        String[] seen = {"node 3 0 = 1", "node 3 0 = 0", "node 1 4 = 66", "node 1 1 = 0", "node 1 1 = 0", "node 1 2 = 2",
                "context 1 1 = NONE", "node 0 4 = 102", "context 1 1 = 1", "context 2 1 = NONE"};
        for (int i = 0; i < last.length; i++) {
            S.holds("so does the 200th deed behind it", LEAST, "0 open 1 10 = 0", "0 write 0 65 = 0", "0 mkdir 9 = 2",
                    "196* label 0 0", "about 4 = 199", last[i], "about 4 = 0", "label 0 1", "crash 0", seen[i],
                    "context 0 1 = 0");
        }
    }

    private static void left() {
        S.promise("Promise 25: crash", "Terms 5");
        String words = "A crash leaves so many of the deeds behind the latest sync as is told";
        String[] acts = {"0 mkdir 2 = 2", "0 open 2 8 = 1", "0 write 0 66 = 0", "0 empty 0 = 0", "0 open 1 16 = 1",
                "0 link 1 2 = 0", "0 unlink 1 = 0", "0 rename 1 2 = 0", "0 relabel 1 1 = 0", "label 1 1", "0 open 2 24 = 1"};
        String[] undone = {"node 2 0 = NoSuchElement", "node 2 0 = NoSuchElement", "node 1 1 = 1", "node 1 3 = 65",
                "node 1 3 = 65", "node 1 2 = 1", "node 1 2 = 1", "node 0 3 = 101", "context 1 1 = 0", "context 1 1 = 0",
                "node 2 0 = NoSuchElement"};
        String[] done = {"node 2 0 = 1", "node 2 0 = 0", "node 1 4 = 66", "node 1 1 = 0", "node 1 1 = 0", "node 1 2 = 2",
                "node 1 0 = NoSuchElement", "node 0 3 = 102", "context 1 1 = 1", "context 1 1 = 1", "node 2 1 = 0"};
        for (int i = 0; i < acts.length; i++) {
            S.holds(words, FREE, "0 open 1 10 = 0", "0 write 0 65 = 0", "sync", acts[i], "about 4 = 1", "crash 0", undone[i],
                    "about 4 = 0", "sync", "crash 0", undone[i]);
            S.holds(words, FREE, "0 open 1 10 = 0", "0 write 0 65 = 0", "sync", acts[i], "label 0 1", "about 4 = 2", "crash 1",
                    done[i], "context 0 1 = 0", "about 4 = 0", "crash 0", done[i]);
        }
        S.holds(words, FREE, "0 mkdir 1 = 1", "0 rmdir 1 = 0", "crash 1", "node 1 0 = 1", "0 rmdir 1 = 0", "crash 0",
                "node 1 0 = 1", "0 rmdir 1 = 0", "crash 1", "node 1 0 = NoSuchElement");
        S.holds("and what is left is sure", FREE, "0 mkdir 1 = 1", "0 mkdir 2 = 2", "0 mkdir 3 = 3", "crash 2", "about 4 = 0",
                "node 0 1 = 2", "crash 1 = IllegalArgument", "crash 0", "node 0 1 = 2", "0 mkdir 4 = 3", "crash 0",
                "node 0 1 = 2");
    }

    private static void doneOnceMore() {
        S.promise("Promise 25: crash", "Terms 5");
        S.holds("done once more in order, by nodes' numbers, on what was sure", FREE, "3* 0 mkdir %", "sync",
                "0 rename 1 9 = 0", "0 rename 2 8 = 0", "0 rmdir 3 = 0", "0 mkdir 7 = 3", "0 rename 9 107 = 0", "crash 4",
                "node 0 1 = 3", "node 0 3 = 109", "node 0 4 = 208", "node 0 5 = 307", "node 3 1 = 0");
        S.holds("done once more in order", FREE, "0 open 1 11 = 0", "sync", "0 write 0 1 = 0", "0 write 0 2 = 0",
                "0 empty 0 = 0", "0 write 0 3 = 0", "0 seek 0 0 = 0", "0 write 0 4 = 0", "crash 5", "node 1 1 = 3",
                "node 1 3 = 4", "node 1 4 = 0", "node 1 5 = 3", "0 open 1 10 = 0", "0 write 0 5 = 0", "0 empty 0 = 0",
                "crash 1", "node 1 3 = 5", "node 1 1 = 3");
        S.holds("done once more in order", FREE, "label 0 1", "label 0 0", "label 0 1", "label 0 0", "crash 3",
                "context 0 1 = 1", "0 open 1 8 = 0", "0 link 1 2 = 0", "0 unlink 1 = 0", "0 link 2 3 = 0", "crash 3",
                "node 0 1 = 1", "node 0 3 = 102");
    }

    private static void byNumbers() {
        S.promise("Promise 25: crash", "Terms 5");
        S.holds("by nodes' numbers", FREE, "0 open 1 10 = 0", "0 write 0 65 = 0", "0 unlink 1 = 0", "label 1 1", "sync",
                "0 write 0 66 = 0", "0 close 0 = 0", "0 mkdir 2 = 1", "0 mkdir 102 = 2", "crash 2", "node 1 0 = 1",
                "node 1 1 = 0", "context 1 1 = 0", "node 0 3 = 102", "context 2 1 = NONE");
        S.holds("by nodes' numbers", FREE, "0 open 1 10 = 0", "0 write 0 65 = 0", "sync", "0 unlink 1 = 0", "0 close 0 = 0",
                "0 mkdir 2 = 1", "0 mkdir 102 = 2", "crash 1", "context 1 1 = NONE", "node 0 1 = 0", "0 open 1 10 = 0",
                "0 write 0 65 = 0", "sync", "0 unlink 1 = 0", "0 close 0 = 0", "0 mkdir 2 = 1", "crash 0", "node 1 3 = 65",
                "node 0 3 = 101");
        S.holds("by nodes' numbers", FREE, "0 open 1 10 = 0", "0 unlink 1 = 0", "sync", "0 close 0 = 0", "0 open 2 10 = 0",
                "node 1 2 = 1", "0 write 0 9 = 0", "0 link 2 3 = 0", "crash 3", "node 1 3 = 9", "node 1 1 = 1", "node 1 2 = 2");
        S.holds("by nodes' numbers", FREE, "0 mkdir 1 = 1", "0 open 1 1 = 0", "0 rmdir 1 = 0", "sync", "0 close 0 = 0",
                "0 open 2 10 = 0", "0 write 0 7 = 0", "crash 2", "node 1 0 = 0", "node 1 3 = 7", "node 1 2 = 1");
    }

    private static void whatGoes() {
        S.promise("Promise 25: crash", "Terms 5");
        S.holds("nodes without links go", FREE, "0 open 1 10 = 0", "0 unlink 1 = 0", "0 mkdir 2 = 2", "0 open 2 1 = 1",
                "0 rmdir 2 = 0", "sync", "node 1 2 = 0", "node 2 2 = 0", "crash 0", "node 1 0 = NoSuchElement",
                "node 2 0 = NoSuchElement", "node 0 0 = 1", "0 mkdir 3 = 1", "0 open 103 8 = 0", "0 unlink 103 = 0", "crash 3",
                "node 1 1 = 0", "node 2 0 = NoSuchElement");
        S.holds("all processes, handles and pipes go; process 0 is there anew, with the context 0, 0, 0 alone", FREE,
                "0 open 1 8 = 0", "0 pipe = 21", "0 write 2 9 = 0", "7* 0 fork = %", "0 switch 1 = 0", "3 switch 1 = 0",
                "crash 1", "context 0 0 = 0", "7* context % 0 = NONE", "context 0 2 = NONE", "about 5 = 0", "about 6 = 0",
                "0 close 0 = NO_HANDLE", "0 close 1 = NO_HANDLE", "0 close 2 = NO_HANDLE", "0 pipe = 10", "0 read 0 = WAITS",
                "0 fork = 1", "1 close 5 = NO_HANDLE", "0 leave = 0", "1 leave = 0", "crash 0", "context 0 0 = 0");
        S.holds("the cache is empty; records, identifiers and policy stay", FREE + "audit a b:process*;", "0 switch 1 = 0",
                "2* 0 look 0 = 1", "about 3 = 2", "about 1 = 3", "about 2 = 1", "crash 0", "about 3 = 0", "about 0 = 1",
                "record 0 2 = 1", "about 1 = 3", "about 2 = 1", "about 7 = 2", "identifier 0 = 1", "identifier 1 = 2",
                "policy 4 = 6", "0 look 0 = 1", "about 2 = 1", "vector 0 0 0 = 1023");
    }

    private static void crash() {
        S.promise("Promise 25: crash");
        S.holds("A crash: n deeds are left.", FREE, "0 mkdir 1 = 1", "0 mkdir 2 = 2", "0 mkdir 3 = 3", "crash 2",
                "node 0 1 = 2", "0 mkdir 3 = 3", "crash 1", "node 0 1 = 3", "0 mkdir 4 = 4", "crash 0", "node 0 1 = 3");
        S.holds("IllegalStateException if there is no policy", "", "crash 0 = IllegalState", "context 0 0 = NONE", "text "
                + FREE, "load = NONE", "crash 0", "context 0 0 = 0");
        S.holds("IllegalArgumentException if n is below 0 or above how many there are.", FREE, "0 fork = 1",
                "! crash 1 = IllegalArgument", "crash -1 = IllegalArgument", "0 mkdir 1 = 1", "0 mkdir 2 = 2",
                "! crash 3 = IllegalArgument", "crash -1 = IllegalArgument", "crash 0x7fffffff = IllegalArgument",
                "crash 0x80000000 = IllegalArgument", "context 1 0 = 0", "about 4 = 2", "crash 2", "node 0 1 = 2");
        S.promise("Promise 25: crash", "Behind Terms 6");
        S.holds("Of several exceptions of other calls that one goes which the call names first.", "", "crash -1 = IllegalState",
                "crash 1 = IllegalState");
    }
}
