/** Promises 24 and 25: sync and crash (Terms 5). */
public final class CrashTest {
    private static final Class<IllegalArgumentException> ARGUMENT = IllegalArgumentException.class;
    private static final Due DUE = new Due();
    private static final String POLICY = "type a;type b;role r{a b};user u{r};allow * *:file *;allow * *:dir *;"
            + "allow * *:process *;allow * *:pipe *;allow * *:handle *;";

    public static void main(String[] args) {
        withoutPolicy();
        deeds();
        prefixes();
        whatGoes();
        unlinkedNodes();
        reusedNumbers();
        theTwoHundredth();
        wrongNumbers();
        DUE.finish();
    }

    private static void withoutPolicy() {
        GuardHouse h = new GuardHouse();
        h.sync();
        DUE.is("nothing", GuardHouse.NONE, h.context(0, 0));
        DUE.failsToDo("no policy", IllegalStateException.class, () -> h.crash(0));
        DUE.failsToDo("no policy goes first", IllegalStateException.class, () -> h.crash(-1));
    }

    private static void deed(GuardHouse h, String event, int deeds) {
        int before = h.about(4);
        Due.events(h, event);
        DUE.is("deeds of " + event, before + deeds, h.about(4));
    }

    private static void deeds() {
        GuardHouse h = Due.with(POLICY);
        DUE.is("none behind loading", 0, h.about(4));
        deed(h, "0 mkdir 1;", 1);
        deed(h, "0 mkdir 1;", 0);
        deed(h, "0 open 2 11;", 1);
        deed(h, "0 open 2 11;", 0);
        deed(h, "0 write 0 1;", 1);
        deed(h, "0 read 0; 0 seek 0 0; 0 dup 0; 0 look 2;", 0);
        deed(h, "0 empty 0;", 1);
        deed(h, "0 empty 0;", 0);
        deed(h, "0 open 2 16;", 0);
        deed(h, "0 write 0 1;", 1);
        deed(h, "0 open 2 16;", 1);
        deed(h, "0 open 3 26;", 1);
        deed(h, "0 link 2 4;", 1);
        deed(h, "0 rename 4 5;", 1);
        deed(h, "0 unlink 5;", 1);
        deed(h, "0 relabel 2 0;", 1);
        deed(h, "label 2 0;", 1);
        deed(h, "0 rmdir 1;", 1);
        deed(h, "0 unlink 2;", 1);
        deed(h, "0 close 0; 0 close 1; 0 close 2; 0 close 3; 0 pipe; 0 fork; 0 switch 1; 0 run 3; 1 leave;", 0);
        h.sync();
        DUE.is("none behind sync", 0, h.about(4));
        h.crash(0);
        DUE.is("none behind a crash", 0, h.about(4));
    }

    /** Every number of deeds that can be left, against a house that did only these. */
    private static void prefixes() {
        String[] acts = {"0 mkdir 1;", "0 open 101 11;", "0 write 0 65;", "0 seek 0 5;0 write 0 66;", "0 link 101 2;",
            "0 mkdir 3;", "0 rename 101 103;", "0 relabel 103 1;", "label 0 1;", "0 unlink 2;", "0 open 103 18;", "0 write 1 67;",
            "0 rename 3 401;", "0 mkdir 5;", "0 rmdir 5;", "0 empty 0;"};
        for (int start = 0; start < acts.length; start += 3) {
            for (int left = 0; start + left <= acts.length; left++) {
                GuardHouse crashed = Due.with(POLICY);
                GuardHouse whole = Due.with(POLICY);
                for (int i = 0; i < acts.length; i++) {
                    if (i == start) {
                        crashed.sync();
                    }
                    Due.events(crashed, acts[i]);
                    if (i < start + left) {
                        Due.events(whole, acts[i]);
                    }
                }
                DUE.is("deeds", acts.length - start, crashed.about(4));
                crashed.crash(left);
                whole.sync();
                whole.crash(0);
                same(whole, crashed, "sync at " + start + ", left " + left);
                crashed.crash(0);
                same(whole, crashed, "what is left is sure");
            }
        }
    }

    private static int answer(GuardHouse h, int n, int what) {
        try {
            return h.node(n, what);
        } catch (java.util.NoSuchElementException thrown) {
            return -1;
        }
    }

    private static void same(GuardHouse due, GuardHouse got, String when) {
        for (int n = 0; n < 32; n++) {
            DUE.is(when + ": the context of " + n, due.context(n, 1), got.context(n, 1));
            for (int what = 0; what < 27; what++) {
                DUE.is(when + ": node(" + n + ", " + what + ")", answer(due, n, what), answer(got, n, what));
            }
        }
    }

    private static void whatGoes() {
        GuardHouse h = Due.with(POLICY + "audit a a:file create;quiet * *:handle *;");
        Due.events(h, "0 open 1 11; 0 pipe; 0 fork; 1 fork; 0 switch 1; 0 run 1; 0 mkdir 2;");
        int questions = h.about(1);
        int hits = h.about(2);
        int identifiers = h.about(7);
        DUE.is("a record", 1, h.about(0));
        h.crash(2);
        DUE.is("process 0", 0, h.context(0, 0));
        for (int p = 1; p < 8; p++) {
            DUE.is("no other", GuardHouse.NONE, h.context(p, 0));
        }
        DUE.is("no pipe", GuardHouse.NONE, h.context(0, 2));
        DUE.is("no openings, no pipes", 0, h.about(5) + h.about(6));
        DUE.is("no handle", GuardHouse.NO_HANDLE, h.onHandle(0, 2, 0));
        DUE.is("the cache is empty", 0, h.about(3));
        DUE.is("records stay", 8, h.record(0, 4));
        DUE.is("records", 1, h.about(0));
        DUE.is("questions", questions, h.about(1));
        DUE.is("hits", hits, h.about(2));
        DUE.is("identifiers stay", identifiers, h.about(7));
        DUE.is("the policy stays", 2, h.policy(0));
        DUE.is("the file", 100, h.onPath(0, 0, 1));
        DUE.is("the directory", 101, h.onPath(0, 0, 2));
        DUE.is("a new pipe is empty", 10, h.alone(0, 1));
        DUE.is("it waits", GuardHouse.WAITS, h.onHandle(0, 2, 0));
    }

    private static void unlinkedNodes() {
        GuardHouse h = Due.with(POLICY);
        Due.events(h, "0 open 1 10; 0 write 0 65; 0 unlink 1; sync; 0 write 0 66; 0 write 0 67;");
        DUE.is("it is there with its handle", 3, h.node(1, 1));
        DUE.is("without links", 0, h.node(1, 2));
        h.crash(1);
        DUE.is("it goes", GuardHouse.NONE, h.context(1, 1));
        Due.events(h, "0 open 1 10; 0 write 0 65; sync; 0 unlink 1; 0 close 0;");
        DUE.is("it is gone", GuardHouse.NONE, h.context(1, 1));
        h.crash(0);
        DUE.is("the unlink is lost", 65, h.node(1, 3));
        Due.events(h, "0 open 0 1; 0 mkdir 2; 0 open 2 1; sync; 0 rmdir 2; 0 close 1;");
        DUE.is("it is gone", GuardHouse.NONE, h.context(2, 1));
        h.crash(0);
        DUE.is("the directory is back", 1, h.node(2, 0));
        DUE.is("the root stays", 1, h.node(0, 0));
    }

    private static void reusedNumbers() {
        GuardHouse h = Due.with(POLICY);
        Due.events(h, "0 open 1 10; 0 write 0 65; 0 write 0 66; 0 unlink 1; label 1 1; sync; 0 close 0; 0 mkdir 2; 0 mkdir 102;");
        DUE.is("another node has its number", 1, h.node(1, 0));
        h.crash(1);
        DUE.is("a directory", 1, h.node(1, 0));
        DUE.is("without entries", 0, h.node(1, 1));
        DUE.is("with its own context", 0, h.context(1, 1));
        DUE.is("no other", GuardHouse.NONE, h.context(2, 1));
        Due.events(h, "0 open 102 10; 0 write 0 65; sync; 0 unlink 102; 0 close 0; 0 open 3 10; 0 write 0 9; 0 link 3 102;");
        DUE.is("its number again", 203, h.node(0, 4));
        h.crash(3);
        DUE.is("one byte", 1, h.node(2, 1));
        DUE.is("the new one", 9, h.node(2, 3));
        DUE.is("one link", 1, h.node(2, 2));
    }

    private static void theTwoHundredth() {
        GuardHouse h = Due.with(POLICY);
        for (int i = 1; i < 200; i++) {
            h.label(0, i % 2);
            DUE.is("deeds", i, h.about(4));
        }
        h.label(0, 0);
        DUE.is("all are sure", 0, h.about(4));
        DUE.failsToDo("none is behind it", ARGUMENT, () -> h.crash(1));
        h.label(0, 1);
        DUE.is("one more", 1, h.about(4));
        h.crash(0);
        DUE.is("the 200th is left", 0, h.context(0, 1));
        GuardHouse other = Due.with(POLICY);
        other.onPaths(0, 0, 1, 8);
        other.onHandle(0, 0, 0);
        for (int i = 2; i < 200; i++) {
            other.label(0, 0);
        }
        DUE.is("199", 199, other.about(4));
        other.onPath(0, 3, 1);
        DUE.is("the 200th", 0, other.about(4));
        other.crash(0);
        DUE.is("unlinked surely", GuardHouse.NONE, other.context(1, 1));
        GuardHouse synced = Due.with(POLICY);
        for (int i = 0; i < 150; i++) {
            synced.label(0, 1);
        }
        synced.sync();
        for (int i = 0; i < 150; i++) {
            synced.label(0, 0);
        }
        DUE.is("150 behind sync", 150, synced.about(4));
        synced.crash(0);
        DUE.is("as at sync", 1, synced.context(0, 1));
    }

    private static void wrongNumbers() {
        GuardHouse h = Due.with(POLICY);
        DUE.failsToDo("-1", ARGUMENT, () -> h.crash(-1));
        DUE.failsToDo("1 of none", ARGUMENT, () -> h.crash(1));
        h.onPath(0, 1, 1);
        h.onPath(0, 1, 2);
        h.alone(0, 0);
        DUE.failsToDo("3 of 2", ARGUMENT, () -> h.crash(3));
        DUE.failsToDo("far more", ARGUMENT, () -> h.crash(Integer.MAX_VALUE));
        DUE.is("nothing is changed", 0, h.context(1, 0));
        DUE.is("nor deeds", 2, h.about(4));
        h.crash(2);
        DUE.is("both are left", 2, h.node(0, 1));
        h.sync();
        h.crash(0);
        DUE.is("they are sure", 2, h.node(0, 1));
    }
}
