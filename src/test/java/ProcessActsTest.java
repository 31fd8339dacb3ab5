import java.util.NoSuchElementException;

/** Promises 14, 15 and 16: alone, onProcess and switchTo (Terms 4). */
public final class ProcessActsTest {
    private static final Class<IllegalArgumentException> ARGUMENT = IllegalArgumentException.class;
    private static final Class<NoSuchElementException> NO_SUCH = NoSuchElementException.class;
    private static final Class<IllegalStateException> STATE = IllegalStateException.class;
    private static final Due DUE = new Due();
    private static final String HEAD = "type a;type b;type c;role r{a b};user u{r};";
    private static final String FREE = "allow * *:file *;allow * *:dir *;allow * *:process *;allow * *:pipe *;allow * *:handle *;";

    public static void main(String[] args) {
        forks();
        pipes();
        leaves();
        signals();
        traces();
        switches();
        wrongNumbers();
        DUE.finish();
    }

    private static GuardHouse free() {
        return Due.with(HEAD + FREE);
    }

    private static int fork(GuardHouse h, int p) {
        return h.alone(p, 0);
    }

    private static int pipe(GuardHouse h, int p) {
        return h.alone(p, 1);
    }

    private static int leave(GuardHouse h, int p) {
        return h.alone(p, 2);
    }

    private static void forks() {
        GuardHouse h = free();
        h.onPaths(0, 0, 1, 11);
        h.onPaths(0, 0, 1, 1);
        h.onHandle(0, 0, 0);
        h.switchTo(0, 1);
        DUE.is("the least", 1, fork(h, 0));
        DUE.is("its context", 1, h.context(1, 0));
        DUE.is("no more openings", 1, h.about(5));
        DUE.is("its handles", 256, h.onHandle(1, 2, 1));
        DUE.is("no others", GuardHouse.NO_HANDLE, h.onHandle(1, 2, 0));
        h.onHandle(0, 0, 1);
        DUE.is("the opening stays", 1, h.about(5));
        DUE.is("one place", 5, h.seek(1, 1, 5));
        for (int i = 2; i < 8; i++) {
            DUE.is("more", i, fork(h, 1));
        }
        DUE.is("eight", GuardHouse.NO_ROOM, fork(h, 0));
        leave(h, 3);
        DUE.is("the least again", 3, fork(h, 7));
        GuardHouse denied = Due.with(HEAD + "allow a b:process *;allow b b:process fork;allow b a:process *;");
        DUE.is("of its own", GuardHouse.DENIED, fork(denied, 0));
        DUE.is("fork", 1, denied.record(0, 4));
        denied.switchTo(0, 1);
        DUE.is("of b by b", 1, fork(denied, 0));
        DUE.is("its context", 1, denied.context(1, 0));
    }

    private static void pipes() {
        GuardHouse h = free();
        DUE.is("the first", 10, pipe(h, 0));
        DUE.is("its context", 0, h.context(0, 2));
        h.switchTo(0, 1);
        DUE.is("the second", 32, pipe(h, 0));
        DUE.is("p's context", 1, h.context(1, 2));
        h.onHandle(0, 0, 1);
        DUE.is("three handles", 41, pipe(h, 0));
        DUE.is("five handles", GuardHouse.NO_ROOM, pipe(h, 0));
        DUE.is("three pipes", 3, h.about(6));
        DUE.is("five openings", 5, h.about(5));
        fork(h, 0);
        for (int i = 0; i < 6; i++) {
            h.onHandle(1, 0, i);
        }
        DUE.is("the fourth", 10, pipe(h, 1));
        DUE.is("a fifth", GuardHouse.NO_ROOM, pipe(h, 1));
        DUE.is("four", 4, h.about(6));
        h.onHandle(0, 0, 0);
        DUE.is("the first goes", GuardHouse.NONE, h.context(0, 2));
        DUE.is("another one", 32, pipe(h, 1));
        DUE.is("has its number", 1, h.context(0, 2));
        GuardHouse full = free();
        for (int p = 0; p < 3; p++) {
            for (int i = 0; i < 5; i++) {
                full.onPaths(p, 0, 1, 8);
            }
            fork(full, p);
            for (int i = 0; i < 6; i++) {
                full.onHandle(p + 1, 0, i);
            }
        }
        DUE.is("15 openings", 15, full.about(5));
        DUE.is("more than 14", GuardHouse.NO_ROOM, pipe(full, 3));
        full.onHandle(0, 0, 0);
        DUE.is("14", 10, pipe(full, 3));
        DUE.is("16 openings", 16, full.about(5));
        GuardHouse denied = Due.with(HEAD + "allow a b:pipe *;allow a a:pipe{read write};");
        DUE.is("pipe create of its own", GuardHouse.DENIED, pipe(denied, 0));
        DUE.is("of pipes", 3, denied.record(0, 3));
        DUE.is("asked", 4, denied.record(0, 4));
        DUE.is("none is made", 0, denied.about(5) + denied.about(6));
    }

    private static void leaves() {
        GuardHouse h = Due.with(HEAD + "allow a a:dir *;allow a a:file *;allow a a:process fork;allow a a:pipe create;");
        h.onPaths(0, 0, 1, 8);
        pipe(h, 0);
        fork(h, 0);
        h.onPath(0, 3, 1);
        int questions = h.about(1);
        DUE.is("leaves", 0, leave(h, 0));
        DUE.is("it asks nothing", questions, h.about(1));
        DUE.is("it isn't there", GuardHouse.NONE, h.context(0, 0));
        DUE.is("openings stay with the other", 3, h.about(5));
        DUE.is("the file, too", 0, h.node(1, 0));
        DUE.is("the other leaves", 0, leave(h, 1));
        DUE.is("no openings", 0, h.about(5));
        DUE.is("no pipes", 0, h.about(6));
        DUE.fails("no file", NO_SUCH, () -> h.node(1, 0));
        DUE.fails("none is there", NO_SUCH, () -> leave(h, 0));
        h.crash(0);
        DUE.is("process 0 anew", 0, h.context(0, 0));
        DUE.is("without handles", GuardHouse.NO_HANDLE, h.onHandle(0, 0, 0));
    }

    private static void signals() {
        GuardHouse h = Due.with(HEAD + "allow a *:process *;allow b b:process signal;allow a a:pipe *;quiet b *:process *;");
        pipe(h, 0);
        fork(h, 0);
        fork(h, 0);
        h.onHandle(0, 0, 0);
        h.onHandle(0, 0, 1);
        h.switchTo(1, 1);
        DUE.is("b signals a", GuardHouse.DENIED, h.onProcess(1, 0, 2));
        DUE.is("it is there", 0, h.context(2, 0));
        DUE.is("a signals b", 0, h.onProcess(0, 0, 1));
        DUE.is("it ends", GuardHouse.NONE, h.context(1, 0));
        DUE.is("its handles were shared", 2, h.about(5));
        DUE.is("a signals a", 0, h.onProcess(0, 0, 2));
        DUE.is("its handles go", 0, h.about(5) + h.about(6));
        DUE.is("itself", 0, h.onProcess(0, 0, 0));
        DUE.is("it ends, too", GuardHouse.NONE, h.context(0, 0));
        DUE.fails("none is there", NO_SUCH, () -> h.onProcess(0, 0, 0));
    }

    private static void traces() {
        GuardHouse h = Due.with(HEAD + "allow a *:process *;allow b b:process trace;");
        fork(h, 0);
        h.switchTo(1, 1);
        DUE.is("a traces b", 0, h.onProcess(0, 1, 1));
        DUE.is("b is there", 1, h.context(1, 0));
        DUE.is("b traces a", GuardHouse.DENIED, h.onProcess(1, 1, 0));
        DUE.is("trace", 8, h.record(0, 4));
        DUE.is("by b", 1, h.record(0, 1));
        DUE.is("of a", 0, h.record(0, 2));
        DUE.is("itself", 0, h.onProcess(1, 1, 1));
    }

    private static void switches() {
        GuardHouse h = Due.with("type a;type b;role r{a b};role s{a};user u{r s};user v{s};"
                + "allow a b:process switch;allow a a:process switch;allow b b:process switch;limit process switch u1==u2;");
        DUE.is("its own", 0, h.switchTo(0, 0));
        DUE.is("another role", 0, h.switchTo(0, 100));
        DUE.is("p has it", 100, h.context(0, 0));
        DUE.is("another user", GuardHouse.DENIED, h.switchTo(0, 1100));
        DUE.is("switch", 16, h.record(0, 4));
        DUE.is("the target", 1100, h.record(0, 2));
        DUE.is("not valid", GuardHouse.NO_CONTEXT, h.switchTo(0, 101));
        DUE.is("no such user", GuardHouse.NO_CONTEXT, h.switchTo(0, 2000));
        DUE.is("no such type", GuardHouse.NO_CONTEXT, h.switchTo(0, Integer.MAX_VALUE));
        DUE.is("p has the old one", 100, h.context(0, 0));
        DUE.is("another type", 0, h.switchTo(0, 1));
        DUE.is("back", GuardHouse.DENIED, h.switchTo(0, 0));
        DUE.fails("below 0", ARGUMENT, () -> h.switchTo(0, -1));
        DUE.is("questions", 5, h.about(1));
    }

    private static void wrongNumbers() {
        GuardHouse none = new GuardHouse();
        DUE.fails("no policy goes first", STATE, () -> none.alone(9, 9));
        DUE.fails("no policy goes first", STATE, () -> none.onProcess(9, 9, 9));
        DUE.fails("no policy goes first", STATE, () -> none.switchTo(9, -1));
        GuardHouse h = free();
        for (int wrong : new int[] {-1, 8, Integer.MIN_VALUE, Integer.MAX_VALUE}) {
            for (int kind = 0; kind < 3; kind++) {
                int each = kind;
                DUE.fails("p " + wrong, ARGUMENT, () -> h.alone(wrong, each));
            }
            DUE.fails("kind " + wrong, ARGUMENT, () -> h.alone(0, wrong));
            DUE.fails("kind " + wrong, ARGUMENT, () -> h.onProcess(0, wrong, 0));
            DUE.fails("p " + wrong, ARGUMENT, () -> h.onProcess(wrong, 0, 0));
            DUE.fails("q " + wrong, ARGUMENT, () -> h.onProcess(0, 1, wrong));
            DUE.fails("q " + wrong + ", ahead of no p", ARGUMENT, () -> h.onProcess(3, 1, wrong));
            DUE.fails("p " + wrong, ARGUMENT, () -> h.switchTo(wrong, 0));
        }
        DUE.fails("kind 3", ARGUMENT, () -> h.alone(0, 3));
        DUE.fails("kind 2", ARGUMENT, () -> h.onProcess(0, 2, 0));
        DUE.fails("a wrong context, ahead of no p", ARGUMENT, () -> h.switchTo(3, -1));
        for (int p = 1; p < 8; p++) {
            int each = p;
            DUE.fails("no p", NO_SUCH, () -> h.alone(each, 0));
            DUE.fails("no p", NO_SUCH, () -> h.onProcess(each, 1, 0));
            DUE.fails("no q", NO_SUCH, () -> h.onProcess(0, 1, each));
            DUE.fails("no q", NO_SUCH, () -> h.onProcess(0, 0, each));
            DUE.fails("no p, though the context isn't valid", NO_SUCH, () -> h.switchTo(each, 99));
        }
        DUE.is("no questions", 0, h.about(1));
    }
}
