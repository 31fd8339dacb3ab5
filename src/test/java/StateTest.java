import java.util.NoSuchElementException;

/** Promises 17, 18 and 19: label, context and node. */
public final class StateTest {
    private static final Class<IllegalArgumentException> ARGUMENT = IllegalArgumentException.class;
    private static final Class<NoSuchElementException> NO_SUCH = NoSuchElementException.class;
    private static final Due DUE = new Due();
    private static final String POLICY = "type a;type b;role r{a b};role s{a};user u{r s};user v{s};"
            + "allow * *:file *;allow * *:dir *;allow * *:process *;allow * *:pipe *;";

    public static void main(String[] args) {
        labels();
        contexts();
        nodes();
        DUE.finish();
    }

    private static void labels() {
        GuardHouse none = new GuardHouse();
        DUE.failsToDo("no policy goes first", IllegalStateException.class, () -> none.label(32, -1));
        GuardHouse h = Due.with(POLICY);
        h.onPaths(0, 0, 1, 8);
        int questions = h.about(1);
        h.label(1, 1100);
        DUE.is("a file", 1100, h.context(1, 1));
        DUE.is("a deed", 2, h.about(4));
        h.label(1, 1100);
        DUE.is("the same is a deed, too", 3, h.about(4));
        h.label(0, 1);
        DUE.is("the root", 1, h.context(0, 1));
        DUE.is("no question", questions, h.about(1));
        DUE.is("no identifier", GuardHouse.NONE, h.identifier(1100));
        for (int n : new int[] {-1, 32, Integer.MAX_VALUE, Integer.MIN_VALUE}) {
            DUE.failsToDo("node " + n, ARGUMENT, () -> h.label(n, 0));
        }
        for (int context : new int[] {-1, 2, 101, 1000, 1101, 2000, Integer.MAX_VALUE}) {
            DUE.failsToDo("context " + context, ARGUMENT, () -> h.label(1, context));
            DUE.failsToDo("context " + context + ", ahead of no node", ARGUMENT, () -> h.label(2, context));
        }
        DUE.failsToDo("no node", NO_SUCH, () -> h.label(2, 0));
        DUE.failsToDo("no node", NO_SUCH, () -> h.label(31, 0));
        DUE.is("nothing was done", 4, h.about(4));
        h.onPath(0, 3, 1);
        h.label(1, 100);
        DUE.is("a node without links", 100, h.context(1, 1));
    }

    private static void contexts() {
        GuardHouse h = new GuardHouse();
        for (int what = 0; what < 3; what++) {
            for (int i = 0; i < (what == 0 ? 8 : what == 1 ? 32 : 4); i++) {
                DUE.is("without a policy", GuardHouse.NONE, h.context(i, what));
            }
        }
        Due.load(h, POLICY);
        DUE.is("process 0", 0, h.context(0, 0));
        DUE.is("process 7", GuardHouse.NONE, h.context(7, 0));
        DUE.is("the root", 0, h.context(0, 1));
        DUE.is("node 31", GuardHouse.NONE, h.context(31, 1));
        DUE.is("pipe 0", GuardHouse.NONE, h.context(0, 2));
        h.switchTo(0, 1);
        h.alone(0, 1);
        h.switchTo(0, 1100);
        h.alone(0, 1);
        DUE.is("pipe 0", 1, h.context(0, 2));
        DUE.is("pipe 1", 1100, h.context(1, 2));
        DUE.is("the process", 1100, h.context(0, 0));
        h.onHandle(0, 0, 0);
        h.onHandle(0, 0, 1);
        DUE.is("pipe 0 goes", GuardHouse.NONE, h.context(0, 2));
        DUE.is("pipe 1 stays", 1100, h.context(1, 2));
        h.alone(0, 1);
        DUE.is("the least number", 1100, h.context(0, 2));
        DUE.is("not the next one", GuardHouse.NONE, h.context(2, 2));
        int[] most = {8, 32, 4};
        for (int what = 0; what < 3; what++) {
            int each = what;
            DUE.fails("below 0", ARGUMENT, () -> h.context(-1, each));
            DUE.fails("too many", ARGUMENT, () -> h.context(most[each], each));
            DUE.fails("far too many", ARGUMENT, () -> h.context(Integer.MAX_VALUE, each));
        }
        DUE.fails("what -1", ARGUMENT, () -> h.context(0, -1));
        DUE.fails("what 3", ARGUMENT, () -> h.context(0, 3));
    }

    private static void nodes() {
        GuardHouse h = new GuardHouse();
        DUE.fails("no root without a policy", NO_SUCH, () -> h.node(0, 0));
        DUE.fails("no such number, even so", ARGUMENT, () -> h.node(32, 0));
        Due.load(h, POLICY);
        DUE.is("the root", 1, h.node(0, 0));
        DUE.is("without entries", 0, h.node(0, 1));
        DUE.is("without links", 0, h.node(0, 2));
        DUE.fails("no entry", NO_SUCH, () -> h.node(0, 3));
        h.onPaths(0, 0, 99, 10);
        h.onPath(0, 1, 5);
        h.onPaths(0, 1, 99, 105);
        DUE.is("two entries", 2, h.node(0, 1));
        DUE.is("the first", 199, h.node(0, 3));
        DUE.is("the second", 205, h.node(0, 4));
        DUE.fails("no third", NO_SUCH, () -> h.node(0, 5));
        DUE.is("a file", 0, h.node(1, 0));
        DUE.is("two links", 2, h.node(1, 2));
        DUE.is("a directory", 1, h.node(2, 0));
        DUE.is("one link", 1, h.node(2, 2));
        DUE.is("its entry", 101, h.node(2, 3));
        DUE.is("no bytes", 0, h.node(1, 1));
        DUE.fails("no byte", NO_SUCH, () -> h.node(1, 3));
        h.write(0, 0, 255);
        h.write(0, 0, 7);
        DUE.is("two bytes", 2, h.node(1, 1));
        DUE.is("byte 0", 255, h.node(1, 3));
        DUE.is("byte 1", 7, h.node(1, 4));
        DUE.fails("no byte 2", NO_SUCH, () -> h.node(1, 5));
        DUE.fails("no byte far off", NO_SUCH, () -> h.node(1, Integer.MAX_VALUE));
        for (int what = 0; what < 40; what++) {
            int each = what;
            DUE.fails("no node", NO_SUCH, () -> h.node(3, each));
        }
        for (int n : new int[] {-1, 32, Integer.MAX_VALUE, Integer.MIN_VALUE}) {
            DUE.fails("node " + n, ARGUMENT, () -> h.node(n, 0));
        }
        DUE.fails("what -1", ARGUMENT, () -> h.node(0, -1));
        DUE.fails("what -1, ahead of no node", ARGUMENT, () -> h.node(3, Integer.MIN_VALUE));
    }
}
