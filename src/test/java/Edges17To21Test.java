/** The edges of promises 17 to 21, sentence by sentence: label, context, node, record and about. */
public final class Edges17To21Test {
    private static final Sentences S = new Sentences();
    private static final String FREE = Sentences.FREE;
    private static final String LEAST = "type a;role r{a};user u{r};";

    public static void main(String[] args) {
        label();
        context();
        node();
        checks();
        recorded();
        record();
        cache();
        about();
        S.finish();
    }

    private static void label() {
        S.promise("Promise 17: label");
        S.holds("The context of node n is set from without, by no process: a deed.", LEAST + "type b;role s{b a};user v{s};",
                "0 leave = 0", "label 0 1101", "context 0 1 = 1101", "about 4 = 1", "label 0 1101", "about 4 = 2",
                "label 0 1100", "context 0 1 = 1100", "about 1 = 0", "about 7 = 0", "crash 1", "context 0 1 = 1101",
                "0 fork = DENIED", "about 3 = 1", "label 0 0", "about 3 = 1", "about 1 = 1");
        S.holds("IllegalStateException if there is no policy", "", "label 0 0 = IllegalState", "text " + FREE, "load = NONE",
                "label 0 0", "about 4 = 1");
        S.holds("IllegalArgumentException if there is no such number, or the context isn't valid", FREE,
                "! label 32 0 = IllegalArgument", "label -1 0 = IllegalArgument", "label 0x7fffffff 0 = IllegalArgument",
                "label 0x80000000 0 = IllegalArgument", "! label 0 2 = IllegalArgument", "label 0 -1 = IllegalArgument",
                "label 0 3 = IllegalArgument", "label 0 100 = IllegalArgument", "label 0 1000 = IllegalArgument",
                "label 0 0x7fffffff = IllegalArgument", "label 0 0x80000000 = IllegalArgument", "about 4 = 0");
        S.holds("NoSuchElementException if the node isn't there.", FREE, "! label 1 0 = NoSuchElement",
                "label 31 0 = NoSuchElement", "0 mkdir 1 = 1", "label 1 1", "context 1 1 = 1", "0 rmdir 1 = 0",
                "! label 1 0 = NoSuchElement", "0 open 1 8 = 0", "0 unlink 1 = 0", "label 1 1", "context 1 1 = 1",
                "0 close 0 = 0", "label 1 1 = NoSuchElement");
        S.promise("Promise 17: label", "Behind Terms 6");
        S.holds("Of several exceptions of other calls that one goes which the call names first.", "",
                "label 32 0 = IllegalState", "label 0 -1 = IllegalState", "label 1 0 = IllegalState", "text " + FREE,
                "load = NONE", "label 1 2 = IllegalArgument", "label 31 -1 = IllegalArgument", "label 32 0 = IllegalArgument");
    }

    private static void context() {
        S.promise("Promise 18: context");
        S.holds("A context as in vector(): of process i (what = 0), node i (1), pipe i (2, by the least number that was free "
                + "when it was made); NONE if it isn't there.", LEAST
                + "type b;role s{b a};user v{s};allow * *:process*;allow * *:pipe*;", "context 0 0 = 0", "0 switch 1101 = 0",
                "context 0 0 = 1101", "context 1 0 = NONE", "context 7 0 = NONE", "context 0 1 = 0", "label 0 1100",
                "context 0 1 = 1100", "context 1 1 = NONE", "context 31 1 = NONE", "context 0 2 = NONE", "0 pipe = 10",
                "context 0 2 = 1101", "0 switch 0 = 0", "0 pipe = 32", "0 switch 1100 = 0", "0 pipe = 54", "context 1 2 = 0",
                "context 2 2 = 1100", "context 3 2 = NONE");
        S.holds("(2, by the least number that was free when it was made)", FREE, "0 pipe = 10", "0 switch 1 = 0", "0 pipe = 32",
                "0 close 0 = 0", "context 0 2 = 0", "0 close 1 = 0", "context 0 2 = NONE", "context 1 2 = 1", "0 switch 0 = 0",
                "0 pipe = 10", "context 0 2 = 0", "context 1 2 = 1", "context 2 2 = NONE", "0 close 2 = 0", "0 close 3 = 0",
                "context 1 2 = NONE", "0 pipe = 32", "0 pipe = 54", "context 1 2 = 0", "context 2 2 = 0", "context 3 2 = NONE");
        S.holds("IllegalArgumentException if there is no such number (0 .. 7, 0 .. 31, 0 .. 3) or what.", FREE,
                "context 8 0 = IllegalArgument", "context 7 0 = NONE", "context -1 0 = IllegalArgument",
                "context 32 1 = IllegalArgument", "context 31 1 = NONE", "context -1 1 = IllegalArgument",
                "context 4 2 = IllegalArgument", "context 3 2 = NONE", "context -1 2 = IllegalArgument",
                "context 0 3 = IllegalArgument", "context 0 -1 = IllegalArgument", "context 0x7fffffff 1 = IllegalArgument",
                "context 0x80000000 2 = IllegalArgument", "! context 0 0x7fffffff = IllegalArgument",
                "context 0 0x80000000 = IllegalArgument");
        S.holds("IllegalArgumentException if there is no such number (0 .. 7, 0 .. 31, 0 .. 3) or what.", "",
                "context 8 0 = IllegalArgument", "context 0 3 = IllegalArgument", "context 32 1 = IllegalArgument",
                "context 4 2 = IllegalArgument", "context 0 2 = NONE");
    }

    private static void node() {
        S.promise("Promise 19: node");
        S.holds("Of node n: 0 whether it is a directory (1 or 0), 1 its bytes or entries, 2 its links, 3 + k byte k (0 .. "
                + "255), or entry k's name and 100 times its node.", FREE, "node 0 0 = 1", "node 0 1 = 0", "node 0 2 = 0",
                "0 open 99 10 = 0", "node 1 0 = 0", "node 1 1 = 0", "node 1 2 = 1", "0 write 0 0 = 0", "0 write 0 255 = 0",
                "node 1 1 = 2", "node 1 3 = 0", "node 1 4 = 255", "0 mkdir 1 = 2", "node 0 1 = 2", "node 0 3 = 199",
                "node 0 4 = 201", "node 2 0 = 1", "node 2 2 = 1", "0 link 99 9901 = 0", "node 2 3 = 199", "node 1 2 = 2",
                "0 unlink 99 = 0", "0 unlink 9901 = 0", "node 1 2 = 0", "node 1 4 = 255");
        S.holds("IllegalArgumentException if there is no such number (0 .. 31), or what is below 0", FREE,
                "node 32 0 = IllegalArgument", "node -1 0 = IllegalArgument", "node 0 -1 = IllegalArgument",
                "node 0x7fffffff 0 = IllegalArgument", "node 0x80000000 0 = IllegalArgument",
                "! node 0 0x80000000 = IllegalArgument", "node 31 0 = NoSuchElement", "node 0 0 = 1");
        S.holds("NoSuchElementException if it isn't there, or has no such byte or entry (any what from 3 on).", FREE,
                "node 1 0 = NoSuchElement", "node 1 3 = NoSuchElement", "node 31 2 = NoSuchElement", "node 0 3 = NoSuchElement",
                "node 0 0x7fffffff = NoSuchElement", "0 open 1 10 = 0", "node 0 3 = 101", "node 0 4 = NoSuchElement",
                "node 1 3 = NoSuchElement", "0 seek 0 23 = 23", "0 write 0 7 = 0", "node 1 26 = 7", "node 1 27 = NoSuchElement",
                "node 1 0x7fffffff = NoSuchElement", "0 empty 0 = 0", "node 1 3 = NoSuchElement", "node 1 2 = 1",
                "0 unlink 1 = 0", "! node 0 3 = NoSuchElement", "0 close 0 = 0", "node 1 0 = NoSuchElement",
                "node 1 3 = NoSuchElement");
        S.promise("Promise 19: node", "Behind Terms 6");
        S.holds("Of several exceptions of other calls that one goes which the call names first.", "",
                "node 0 0 = NoSuchElement", "node 0 -1 = IllegalArgument", "node 32 0 = IllegalArgument",
                "node 32 -1 = IllegalArgument", "node 31 -1 = IllegalArgument", "text " + FREE, "load = NONE",
                "node 1 -1 = IllegalArgument");
    }

    private static void checks() {
        S.promise("Promise 20: record", "Terms 2");
        S.holds("CHECKING permissions (one or more, together) of a class between two contexts: one question; they are GRANTED "
                + "if the vector has all", Sentences.freeBut("file append"), "0 open 1 8 = 0", "label 1 1", "about 1 = 3",
                "0 open 1 3 = 1", "about 1 = 5", "0 open 1 7 = DENIED", "about 1 = 7", "0 open 1 4 = DENIED",
                "0 open 1 5 = DENIED", "0 open 1 1 = 2", "about 0 = 3", "record 0 4 = 7", "record 1 4 = 4", "record 2 4 = 5");
        S.holds("an act whose check isn't granted tells DENIED", LEAST, "0 look 0 = DENIED", "0 look 1 = DENIED",
                "0 mkdir 1 = DENIED", "0 fork = DENIED", "0 pipe = DENIED", "0 trace 0 = DENIED", "0 signal 0 = DENIED",
                "0 switch 0 = DENIED", "0 open 0 1 = DENIED", "0 relabel 0 0 = DENIED", "about 0 = 10", "0 leave = 0");
        S.holds("AUDITED are the permissions that some audit has for both types, QUIET those that some quiet has.",
                Sentences.HEAD + "allow a a:process*;audit a b:process*;audit b *:process*;"
                + "audit * self:process trace;audit a a:file*;quiet a a:dir look;quiet b *:dir*;quiet a b:dir*;allow a "
                + "b:process*;", "0 trace 0 = 0", "about 0 = 1", "0 fork = 1", "about 0 = 1", "0 look 0 = DENIED",
                "about 0 = 1", "0 mkdir 1 = DENIED", "about 0 = 2", "0 switch 1 = 0", "about 0 = 3", "0 mkdir 1 = DENIED",
                "about 0 = 3");
    }

    private static void recorded() {
        S.promise("Promise 20: record", "Terms 2");
        String words = "A RECORD is made of it, of all of them, if they are granted and one is audited; or not granted and "
                + "one of those that the vector hasn't isn't quiet.";
        String files = Sentences.HEAD + "allow a *:dir*;allow a *:file create;";
        S.holds(words, files + "allow a *:file{read write append};audit a *:file write;", "0 open 1 13 = 0", "about 0 = 0",
                "0 open 1 7 = 1", "about 0 = 1", "record 0 0 = 1", "record 0 4 = 7", "0 open 1 2 = 2", "record 1 4 = 2");
        S.holds(words, files + "allow a *:file read;audit a *:file read;quiet a *:file write;", "0 open 1 11 = DENIED",
                "about 0 = 0", "0 open 1 15 = DENIED", "about 0 = 1", "record 0 0 = 0", "record 0 4 = 7",
                "0 open 1 10 = DENIED", "about 0 = 1", "0 open 1 12 = DENIED", "record 1 4 = 4", "0 open 1 13 = DENIED",
                "record 2 4 = 5", "0 open 1 9 = 0", "about 0 = 4", "record 3 0 = 1");
        S.holds("not granted and one of those that the vector hasn't isn't quiet", files
                + "quiet a *:file{read write};audit a *:file*;", "0 open 1 9 = DENIED", "about 0 = 1", "record 0 4 = 8",
                "0 open 1 11 = DENIED", "about 0 = 2", "record 1 4 = 8", "0 open 1 15 = DENIED", "about 0 = 4",
                "record 3 4 = 7", "record 3 0 = 0");
        S.holds("if they are granted and one is audited", files + "allow a *:file*;quiet a *:file*;audit a b:file look;",
                "0 open 1 8 = 0", "0 look 1 = 100", "about 0 = 0", "label 1 1", "0 look 1 = 100", "about 0 = 1",
                "record 0 0 = 1", "record 0 2 = 1", "0 look 1 = 100", "about 0 = 2");
    }

    private static void record() {
        S.promise("Promise 20: record", "Terms 2");
        S.holds("The last 20 records are kept.", LEAST + "allow a a:process trace;audit a a:process*;",
                "19* 0 signal 0 = DENIED", "record 18 4 = 4", "record 19 0 = IndexOutOfBounds", "0 trace 0 = 0",
                "record 19 4 = 8", "record 19 0 = 1", "record 0 4 = 4", "record 20 0 = IndexOutOfBounds", "0 fork = DENIED",
                "record 20 0 = IndexOutOfBounds", "record 19 4 = 1", "record 18 4 = 8", "record 17 4 = 4", "record 0 4 = 4",
                "17* 0 switch 0 = DENIED", "record 0 4 = 4", "record 1 4 = 8", "0 switch 0 = DENIED", "record 0 4 = 8",
                "record 1 4 = 1", "0 switch 0 = DENIED", "record 0 4 = 1", "0 switch 0 = DENIED", "record 0 4 = 16",
                "record 19 4 = 16", "about 0 = 41", "crash 0", "record 0 4 = 16", "record 19 0 = 0");
        S.promise("Promise 20: record");
        S.holds("Of record i of those kept, 0 the oldest: 0 whether it was granted (1 or 0), 1 its source, 2 its target "
                + "(contexts as in vector()), 3 its class, 4 the permissions, a bit each.", LEAST
                + "type b;role s{b a};user v{s};allow * *:process switch;audit a *:process*;", "0 switch 1101 = 0",
                "record 0 0 = 1", "record 0 1 = 0", "record 0 2 = 1101", "record 0 3 = 2", "record 0 4 = 16",
                "0 look 0 = DENIED", "record 1 0 = 0", "record 1 1 = 1101", "record 1 2 = 0", "record 1 3 = 1",
                "record 1 4 = 256", "record 0 2 = 1101", "0 pipe = DENIED", "record 2 2 = 1101", "record 2 3 = 3",
                "record 2 4 = 4");
        S.holds("IndexOutOfBoundsException if there is none such", LEAST, "record 0 0 = IndexOutOfBounds", "0 fork = DENIED",
                "record 0 0 = 0", "record 1 0 = IndexOutOfBounds", "! record -1 0 = IndexOutOfBounds",
                "record 0x7fffffff 0 = IndexOutOfBounds", "record 0x80000000 0 = IndexOutOfBounds");
        S.holds("IllegalArgumentException for another what.", LEAST, "0 fork = DENIED", "! record 0 5 = IllegalArgument",
                "record 0 -1 = IllegalArgument", "record 0 4 = 1", "record 0 0x7fffffff = IllegalArgument",
                "record 0 0x80000000 = IllegalArgument");
        S.promise("Promise 20: record", "Behind Terms 6");
        S.holds("Of several exceptions of other calls that one goes which the call names first.", "",
                "record 0 5 = IndexOutOfBounds", "record -1 -1 = IndexOutOfBounds", "record 0 0 = IndexOutOfBounds", "text "
                + LEAST, "load = NONE", "0 fork = DENIED", "record 1 5 = IndexOutOfBounds", "record 0 5 = IllegalArgument");
    }

    private static void cache() {
        S.promise("Promise 21: about", "Terms 2");
        String types = Sentences.times(8, "type %;")
                + "role r1_{a b c d e f g h};user u1_{r1_};allow a *:process trace;quiet * *:process*;";
        S.holds("A CACHE keeps the vectors of up to six (source, target, class), by contexts; a question that is there is a "
                + "HIT", types, "about 3 = 0", "5* 0 switch % = DENIED", "about 3 = 5", "about 2 = 0", "5* 0 switch % = DENIED",
                "about 2 = 5", "about 3 = 5", "0 switch 6 = DENIED", "about 3 = 6", "6* 0 switch % = DENIED", "about 2 = 11",
                "about 3 = 6", "0 switch 7 = DENIED", "about 3 = 6", "about 2 = 11", "about 1 = 18");
        S.holds("otherwise it is put in, the one that has been there longest goes if there are six", types,
                "6* 0 switch % = DENIED", "0 switch 1 = DENIED", "about 2 = 1", "0 switch 7 = DENIED", "about 2 = 1",
                "0 switch 6 = DENIED", "about 2 = 2", "5* 0 switch 2 = DENIED", "about 2 = 7", "0 switch 1 = DENIED",
                "about 2 = 7", "0 switch 2 = DENIED", "about 2 = 7", "0 switch 4 = DENIED", "about 2 = 8",
                "0 switch 3 = DENIED", "about 2 = 8", "0 switch 7 = DENIED", "about 2 = 9");
        S.holds("(source, target, class), by contexts", FREE, "0 switch 1 = 0", "about 3 = 1", "0 switch 0 = 0", "about 3 = 2",
                "0 trace 0 = 0", "about 3 = 3", "0 look 0 = 1", "about 3 = 4", "0 pipe = 10", "about 3 = 5", "about 2 = 0",
                "0 fork = 1", "about 2 = 1", "0 switch 1 = 0", "about 2 = 2", "about 3 = 5");
        S.holds("the one that has been there longest goes if there are six", Sentences.FREE + "limit process trace t1!=a;",
                "0 fork = 1", "0 switch 1 = 0", "0 trace 1 = 0", "1 trace 0 = DENIED", "0 look 0 = 1", "1 look 0 = 1",
                "1 pipe = 10", "about 3 = 6", "about 2 = 1", "0 pipe = 10", "about 3 = 6", "1 trace 0 = DENIED",
                "0 trace 1 = 0", "0 look 0 = 1", "1 look 0 = 1", "about 2 = 5", "1 trace 1 = DENIED", "about 2 = 5",
                "0 trace 1 = 0", "about 2 = 6");
        S.holds("by contexts",
                "type a;role r{a};role s{a};user u{r s};user v{r};allow * *:process*;limit process trace r1==r2;", "0 fork = 1",
                "0 trace 1 = 0", "about 2 = 1", "1 switch 100 = 0", "0 trace 1 = DENIED", "about 2 = 2", "about 3 = 2",
                "1 switch 1000 = 0", "0 trace 1 = 0", "about 3 = 4");
        S.holds("a question that is there is a HIT", Sentences.freeBut("process trace"), "0 fork = 1", "1 switch 1 = 0",
                "0 trace 1 = DENIED", "about 2 = 1", "0 trace 1 = DENIED", "about 2 = 2", "about 0 = 2", "0 signal 1 = 0",
                "about 2 = 3");
        S.holds("Loading a policy empties it.", LEAST, "2* 0 fork = DENIED", "load = NONE", "about 3 = 0", "about 0 = 2",
                "about 1 = 2", "about 2 = 1", "about 7 = 1", "record 1 4 = 1");
        S.holds("Loading a policy empties it.", FREE, "0 look 0 = 1", "0 look 0 = 1", "about 3 = 1", "about 2 = 1",
                "load = NONE", "about 3 = 0", "0 look 0 = 1", "about 2 = 1", "about 3 = 1");
    }

    private static void about() {
        S.promise("Promise 21: about");
        S.holds("0 how many records there were, 1 questions, 2 hits, 3 how many the cache has, 4 deeds behind the latest "
                + "sync, 5 openings, 6 pipes, 7 identifiers.", Sentences.HEAD
                + "allow * *:dir*;allow * *:pipe*;allow * *:process*;allow * *:handle*;", "21* 0 open 1 8 = DENIED",
                "about 0 = 21", "about 1 = 63", "about 2 = 61", "about 3 = 2", "2* 0 mkdir %", "about 4 = 2", "0 open 0 1 = 0",
                "0 pipe = 21", "about 5 = 3", "about 6 = 1", "about 7 = 1", "0 switch 1 = 0", "about 7 = 2", "sync",
                "about 4 = 0", "0 dup 0 = 3", "about 5 = 3", "crash 0", "about 0 = 21", "about 5 = 0", "about 6 = 0",
                "about 7 = 2");
        S.holds("IllegalArgumentException for another what.", "", "about -1 = IllegalArgument", "about 8 = IllegalArgument",
                "about 7 = 0", "about 0 = 0", "about 0x7fffffff = IllegalArgument", "about 0x80000000 = IllegalArgument",
                "text " + LEAST, "load = NONE", "! about 8 = IllegalArgument");
    }
}
