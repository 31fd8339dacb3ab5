/** Promises 22 and 23: events and result (Terms 6). */
public final class EventsTest {
    private static final Class<IndexOutOfBoundsException> BOUNDS = IndexOutOfBoundsException.class;
    private static final Due DUE = new Due();
    private static final String POLICY = "type a;type b;role r{a b};user u{r};allow * *:file *;allow * *:dir *;"
            + "allow * *:process *;allow * *:pipe *;allow * *:handle *;";

    public static void main(String[] args) {
        faults();
        results();
        allActs();
        exceptions();
        crashes();
        manyEvents();
        DUE.finish();
    }

    /** The ^ stands ahead of the token at fault; without one there is no fault. */
    private static void fault(String marked) {
        GuardHouse house = Due.with(POLICY);
        DUE.is(marked, marked.indexOf('^'), Due.events(house, marked.replace("^", "")));
        DUE.is("the text is empty then", 0, house.put(0));
        if (marked.indexOf('^') >= 0) {
            DUE.is("nothing is done", 0, house.about(1) + house.about(4) + house.result(GuardHouse.NONE));
        }
    }

    private static void faults() {
        for (String text : new String[] {"", " ", "\n", "# nothing", "#\n #;;\n", "sync;", " sync ; ", "sync;sync;", "sync#;\n;",
            "0 fork;", "0fork;", "0look1;", "0 open 1 8;", "0\nlook\n#x\n1\n;\n", "00000000 look 00000001;", "12345678 fork;",
            "0 write 0 99999999;", "crash0;", "label 0 0;"}) {
            fault(text);
        }
        for (String text : new String[] {"^;", "sync;^;", "sync^", "sync ^1;", "^look 1;", "^fork;", "0 ^sync;", "0 ^crash 0;",
            "0 ^label 0 0;", "0 ^;", "0^", "0 ^0 look 1;", "^no;", "0 ^no;", "0 ^looks 1;", "0 ^loo 1;", "0 look^", "0 look^;",
            "0 look ^look;", "0 look 1^", "0 look 1 ^1;", "0 open 1^;", "0 open 1 8 ^8;", "0 fork ^1;", "0 fork ^fork;",
            "^-1 fork;", "0 look ^-1;", "0 look ^A;", "^S;", "0 ^123456789 fork;", "^123456789 fork;", "0 look ^123456789;",
            "0 look ^000000001;", "sync^,", "sync^_;", "crash^;", "crash ^x;", "crash 1 ^1;",
            "label 1^;", "label 1 1^", "label 1 1 ^1;", "0 fork;0 look 1;^x", "0 fork; 0 look 1 # ;\n^", "sync;sync^",
            "0 link 1^;", "0 rename 1 2 ^3;", "0 relabel 1^;", "0 close^;", "0 write 1^;", "0 seek 1^;", "0 switch^;",
            "0 signal^;", "0 pipe ^0;", "0 leave ^0;", "^abcdefghijklmnop;", "0 ^abcdefghijklmnop 1;", "0 ^mkdirmkdir 1;",
            "0 mkdir ^", "0 ^lookmk", "0^{look 1;", "0 ^makedirectory 1;"}) {
            fault(text);
        }
        GuardHouse none = new GuardHouse();
        DUE.is("a fault without a policy", 4, Due.events(none, "sync"));
        DUE.is("no result", 0, none.result(GuardHouse.NONE));
    }

    private static void results() {
        GuardHouse h = Due.with(POLICY);
        DUE.is("none yet", 0, h.result(GuardHouse.NONE));
        DUE.fails("no event", BOUNDS, () -> h.result(0));
        DUE.is("two events", GuardHouse.NONE, Due.events(h, "0 mkdir 5; 0 look 5;"));
        DUE.is("two", 2, h.result(GuardHouse.NONE));
        DUE.is("mkdir", 1, h.result(0));
        DUE.is("look", 101, h.result(1));
        DUE.fails("no third", BOUNDS, () -> h.result(2));
        DUE.fails("-2", BOUNDS, () -> h.result(-2));
        DUE.is("a fault", 11, Due.events(h, "0 mkdir 6; x"));
        DUE.is("the results stay", 101, h.result(1));
        DUE.is("as many", 2, h.result(GuardHouse.NONE));
        DUE.is("nothing was done", 1, h.node(0, 1));
        DUE.is("no events", GuardHouse.NONE, Due.events(h, " # 0 mkdir 6;"));
        DUE.is("no results", 0, h.result(GuardHouse.NONE));
        DUE.fails("none", BOUNDS, () -> h.result(0));
        DUE.is("the text is a policy, too", GuardHouse.NONE, Due.load(h, POLICY));
        DUE.is("but not events", 0, h.events());
        DUE.is("it is gone", 0, h.put(0));
    }

    private static void done(GuardHouse h, String text, int... due) {
        DUE.is(text, GuardHouse.NONE, Due.events(h, text));
        DUE.is("results of " + text, due.length, h.result(GuardHouse.NONE));
        for (int i = 0; i < due.length; i++) {
            DUE.is("result " + i + " of " + text, due[i], h.result(i));
        }
    }

    private static void allActs() {
        GuardHouse h = Due.with(POLICY);
        done(h, "0 open 1 11; 0 write 0 321; 0 seek 0 0; 0 read 0; 0 read 0; 0 empty 0; 0 look 1;", 0, 0, 0, 65, 256, 0, 100);
        done(h, "0 mkdir 2; 0 link 1 302; 0 rename 302 402; 0 look 402; 0 unlink 402; 0 rmdir 2;", 2, 0, 0, 200, 0, 0);
        done(h, "0 relabel 1 1; 0 run 1; 0 dup 0; 0 list 0; 0 close 1; 0 close 1;", 0, 0, 1, -4, 0, -9);
        done(h, "0 open 0 1; 0 list 1; 0 list 1; 0 read 1; 0 seek 0 24;", 1, 1, 256, -5, 24);
        done(h, "0 pipe; 0 write 3 7; 0 read 2; 0 read 2; 0 fork; 1 switch 1; 1 trace 0; 0 signal 1; 1 fork;",
                32, 0, 7, -12, 1, 0, 0, 0, -101);
        done(h, "sync; label 1 0; label 0 1; 0 look 9; 0 leave; 0 look 9; crash 1; 0 look 0;", 0, 0, 0, -3, 0, -101, 0, 3);
        DUE.is("one deed was left", 0, h.context(0, 1));
        DUE.is("what it did", 0, h.context(1, 1));
    }

    private static void exceptions() {
        GuardHouse none = new GuardHouse();
        done(none, "0 fork; 9 fork; sync; crash 0; crash 9; label 0 0; label 99 0;", -102, -102, 0, -102, -102, -102, -102);
        GuardHouse h = Due.with(POLICY);
        done(h, "8 fork; 1 fork; 0 look 100; 0 open 1 32; 0 close 6; 0 seek 0 25; 0 signal 8; 0 signal 7; 3 signal 8; 0 link 1 100;",
                -100, -101, -100, -100, -100, -100, -100, -101, -100, -100);
        done(h, "crash 1; label 32 0; label 0 2; label 1 0; 0 switch 2; 0 relabel 0 2; 99999999 fork;", -100, -100, -100, -101,
                -11, -11, -100);
        DUE.is("nothing was done", 0, h.about(4));
    }

    private static void crashes() {
        GuardHouse h = Due.with(POLICY);
        done(h, "0 mkdir 1; 0 mkdir 2; 0 fork; crash 1; 0 look 2; 1 look 1; 0 look 1; crash 0; crash 1;",
                1, 2, 1, 0, -3, -101, 101, 0, -100);
        done(h, "0 mkdir 3; sync; crash 0; 0 look 3;", 2, 0, 0, 101);
    }

    private static void manyEvents() {
        GuardHouse h = Due.with(POLICY);
        StringBuilder text = new StringBuilder();
        for (int i = 0; i < 240; i++) {
            text.append("sync;");
        }
        DUE.is("240 events", GuardHouse.NONE, Due.events(h, text.toString()));
        DUE.is("240 results", 240, h.result(GuardHouse.NONE));
        DUE.is("the last one", 0, h.result(239));
        DUE.fails("none behind it", BOUNDS, () -> h.result(240));
        text.setLength(0);
        for (int i = 0; i < 200; i++) {
            text.append("0fork;");
        }
        DUE.is("200 events", GuardHouse.NONE, Due.events(h, text.toString()));
        DUE.is("the first", 1, h.result(0));
        DUE.is("the last one", GuardHouse.NO_ROOM, h.result(199));
        DUE.fails("none behind it", BOUNDS, () -> h.result(200));
    }
}
