import java.util.ArrayList;
import java.util.List;
import java.util.function.ToIntFunction;

/** All promises: runs of calls made from seeds, whose answers a plainer house must give, too. */
public final class ModelTest {
    private static final int RUNS = 120;
    private static final int CALLS = 400;

    private final TextMaker maker;
    private final GuardHouse house = new GuardHouse();
    private final PlainHouse plain = new PlainHouse();
    private final List<String> calls = new ArrayList<>();
    // Whether most acts make or link, so that directories and the tree get full.
    private boolean growing;

    private ModelTest(long seed) {
        maker = new TextMaker(seed);
    }

    public static void main(String[] args) {
        long first = args.length > 0 ? Long.parseLong(args[0]) : 0;
        int runs = args.length > 1 ? Integer.parseInt(args[1]) : RUNS;
        for (long seed = first; seed < first + runs; seed++) {
            new ModelTest(seed).run();
            new ModelTest(seed).texts();
            new ModelTest(seed).wildNumbers();
        }
    }

    private static String answer(java.util.function.IntSupplier call) {
        try {
            return String.valueOf(call.getAsInt());
        } catch (RuntimeException thrown) {
            return thrown.getClass().getSimpleName();
        }
    }

    private String same(String call, ToIntFunction<GuardHouse> one, ToIntFunction<PlainHouse> other) {
        String got = answer(() -> one.applyAsInt(house));
        String due = answer(() -> other.applyAsInt(plain));
        if (!got.equals(due)) {
            calls.forEach(System.out::println);
            System.out.println(call + " answered " + got + ", due is " + due);
            System.exit(1);
        }
        return got;
    }

    private void call(String call, ToIntFunction<GuardHouse> one, ToIntFunction<PlainHouse> other) {
        calls.add(call + " -> " + same(call, one, other));
    }

    private void put(String text) {
        calls.add("text: " + text);
        same("end", h -> {
            h.end(0);
            return 0;
        }, h -> h.end(0));
        for (int i = 0; i < text.length(); i += 4) {
            int signs = 0;
            for (int j = 0; j < 4 && i + j < text.length(); j++) {
                signs |= text.charAt(i + j) << 8 * j;
            }
            int four = signs;
            same("put", h -> h.put(four), h -> h.put(four));
        }
    }

    private void run() {
        maker.size();
        int freedom = maker.chance(50) ? 100 : 50 + maker.below(51);
        boolean calm = maker.chance(50);
        growing = maker.chance(30);
        for (int i = 0; i < CALLS; i++) {
            if (i == 0 || (!calm && maker.chance(2))) {
                put(maker.policy(freedom));
                call("load", GuardHouse::load, PlainHouse::load);
            }
            if (maker.chance(5)) {
                other(calm ? 3 + maker.below(3) : maker.below(7));
            } else {
                act(livingProcess(), livingProcess());
            }
            if (maker.chance(5)) {
                state();
            }
        }
        call("crash(1", x -> {
            x.crash(1);
            return 0;
        }, x -> x.crash(1));
        state();
    }

    /** Mostly a process that is there; if none is, a crash makes one. */
    private int livingProcess() {
        List<Integer> living = new ArrayList<>();
        for (int i = 0; i < 8; i++) {
            if (plain.context(i, 0) != GuardHouse.NONE) {
                living.add(i);
            }
        }
        if (living.isEmpty()) {
            call("crash(0", x -> {
                x.crash(0);
                return 0;
            }, x -> x.crash(0));
            return 0;
        }
        return maker.chance(97) ? living.get(maker.below(living.size())) : maker.process();
    }

    /** A path that is there, or one name more than such a one, or any. */
    private int path(int percentThere) {
        List<Integer> there = plain.paths();
        if (there.isEmpty() || maker.chance(10)) {
            return maker.path();
        }
        int path = there.get(maker.below(there.size()));
        if (maker.chance(percentThere)) {
            return path;
        }
        int factor = path < 100 ? 100 : path < 10000 ? 10000 : 1000000;
        return maker.chance(50) || path >= 1000000 ? maker.path() : path + factor * maker.name();
    }

    private int handle(int p) {
        List<Integer> there = plain.handles(p);
        return there.isEmpty() || maker.chance(20) ? maker.handle() : there.get(maker.below(there.size()));
    }

    private void act(int p, int q) {
        boolean grows = growing && maker.chance(60);
        int kind = maker.chance(2) ? maker.below(9) - 2 : grows ? 1 : maker.below(5);
        int path = path(grows ? 0 : 60);
        int to = path(10);
        int context = maker.context();
        int h = handle(p);
        int number = maker.below(27) - 1;
        String numbers = "(" + p + ", " + kind;
        switch (maker.below(22)) {
            case 0:
            case 1:
            case 2:
            case 13:
            case 14:
                call("onPath" + numbers + ", " + path, x -> x.onPath(p, kind, path), x -> x.onPath(p, kind, path));
                break;
            case 3:
            case 4:
            case 15:
            case 16:
            case 17:
                int mode = maker.chance(30) ? 1 : maker.chance(50) ? maker.below(33) - 1 : 8 | maker.below(8);
                int paths = maker.chance(40) ? 0 : kind;
                int other = paths == 0 ? mode : paths == 3 ? context : to;
                call("onPaths(" + p + ", " + paths + ", " + path + ", " + other, x -> x.onPaths(p, paths, path, other),
                        x -> x.onPaths(p, paths, path, other));
                break;
            case 5:
            case 6:
            case 18:
            case 19:
                call("onHandle" + numbers + ", " + h, x -> x.onHandle(p, kind, h), x -> x.onHandle(p, kind, h));
                break;
            case 7:
            case 8:
            case 20:
                call("write(" + p + ", " + h + ", " + path, x -> x.write(p, h, path), x -> x.write(p, h, path));
                break;
            case 9:
            case 21:
                call("seek(" + p + ", " + h + ", " + number, x -> x.seek(p, h, number), x -> x.seek(p, h, number));
                break;
            case 10:
                int alone = maker.chance(15) ? kind : maker.below(2);
                call("alone(" + p + ", " + alone, x -> x.alone(p, alone), x -> x.alone(p, alone));
                break;
            case 11:
                int on = maker.chance(20) ? 0 : maker.chance(90) ? 1 : kind;
                call("onProcess(" + p + ", " + on + ", " + q, x -> x.onProcess(p, on, q), x -> x.onProcess(p, on, q));
                break;
            default:
                call("switchTo(" + p + ", " + context, x -> x.switchTo(p, context), x -> x.switchTo(p, context));
                break;
        }
    }

    private void other(int which) {
        int n = maker.below(maker.chance(80) ? 7 : 34) - (maker.chance(10) ? 1 : 0);
        int context = maker.context();
        int second = maker.context();
        int kind = maker.chance(90) ? maker.below(5) : maker.below(7) - 1;
        int source = maker.below(maker.chance(80) ? 4 : 26);
        switch (which) {
            case 0:
                call("crash(" + n, x -> {
                    x.crash(n);
                    return 0;
                }, x -> x.crash(n));
                break;
            case 1:
                call("sync(", x -> {
                    x.sync();
                    return 0;
                }, PlainHouse::sync);
                break;
            case 2:
                call("label(" + n + ", " + context, x -> {
                    x.label(n, context);
                    return 0;
                }, x -> x.label(n, context));
                break;
            case 3:
                call("vector(" + context + ", " + second + ", " + kind, x -> x.vector(context, second, kind),
                        x -> x.vector(context, second, kind));
                break;
            case 4:
                call("move(" + source + ", " + n + ", " + kind, x -> x.move(source, n, kind), x -> x.move(source, n, kind));
                break;
            case 5:
                call("identifier(" + context, x -> x.identifier(context), x -> x.identifier(context));
                break;
            default:
                events(maker.chance(90) ? maker.events() : maker.spoilt(maker.events()));
                break;
        }
    }

    private void events(String text) {
        put(text);
        call("events", GuardHouse::events, PlainHouse::events);
        for (int i = -2; i < plain.result(-1) + 2; i++) {
            int number = i;
            call("result(" + i, x -> x.result(number), x -> x.result(number));
        }
    }

    private void state() {
        for (int i = -1; i < 9; i++) {
            int what = i;
            same("about(" + i, x -> x.about(what), x -> x.about(what));
            same("policy(" + i, x -> x.policy(what), x -> x.policy(what));
        }
        for (int i = -1; i < 33; i++) {
            int number = i;
            for (int j = -1; j < 30; j++) {
                int what = j;
                same("node(" + i + ", " + j, x -> x.node(number, what), x -> x.node(number, what));
                if (j < 6) {
                    same("record(" + i + ", " + j, x -> x.record(number, what), x -> x.record(number, what));
                    same("context(" + i + ", " + j, x -> x.context(number, what), x -> x.context(number, what));
                }
            }
        }
        same("put", x -> x.put(0), x -> x.put(0));
    }

    private int wild() {
        int[] edges = {Integer.MIN_VALUE, Integer.MIN_VALUE + 1, -101, -2, -1, 24, 25, 31, 32, 99, 100, 10000, 99999999, 100000000,
            Integer.MAX_VALUE - 1, Integer.MAX_VALUE};
        return maker.chance(60) ? maker.below(8) : edges[maker.below(edges.length)];
    }

    /** Numbers far from what is asked for, ahead of a policy and behind it. */
    private void wildNumbers() {
        maker.size();
        for (int i = 0; i < 300; i++) {
            if (i == 50) {
                put(maker.policy(100));
                call("load", GuardHouse::load, PlainHouse::load);
            }
            wildCall(maker.below(21), wild(), wild(), wild(), wild());
        }
        state();
    }

    private void wildCall(int which, int a, int b, int c, int d) {
        String call = "call " + which + ": " + a + ", " + b + ", " + c + ", " + d;
        switch (which) {
            case 0 -> call(call, x -> x.put(a), x -> x.put(a));
            case 1 -> call(call, x -> {
                x.end(a);
                return 0;
            }, x -> x.end(a));
            case 2 -> call(call, x -> x.policy(a), x -> x.policy(a));
            case 3 -> call(call, x -> x.vector(a, b, c), x -> x.vector(a, b, c));
            case 4 -> call(call, x -> x.move(a, b, c), x -> x.move(a, b, c));
            case 5 -> call(call, x -> x.identifier(a), x -> x.identifier(a));
            case 6 -> call(call, x -> x.onPath(a, b, c), x -> x.onPath(a, b, c));
            case 7 -> call(call, x -> x.onPaths(a, b, c, d), x -> x.onPaths(a, b, c, d));
            case 8 -> call(call, x -> x.onHandle(a, b, c), x -> x.onHandle(a, b, c));
            case 9 -> call(call, x -> x.write(a, b, c), x -> x.write(a, b, c));
            case 10 -> call(call, x -> x.seek(a, b, c), x -> x.seek(a, b, c));
            case 11 -> call(call, x -> x.alone(a, b), x -> x.alone(a, b));
            case 12 -> call(call, x -> x.onProcess(a, b, c), x -> x.onProcess(a, b, c));
            case 13 -> call(call, x -> x.switchTo(a, b), x -> x.switchTo(a, b));
            case 14 -> call(call, x -> {
                x.label(a, b);
                return 0;
            }, x -> x.label(a, b));
            case 15 -> call(call, x -> x.context(a, b), x -> x.context(a, b));
            case 16 -> call(call, x -> x.node(a, b), x -> x.node(a, b));
            case 17 -> call(call, x -> x.record(a, b), x -> x.record(a, b));
            case 18 -> call(call, x -> x.about(a), x -> x.about(a));
            case 19 -> call(call, x -> x.result(a), x -> x.result(a));
            default -> call(call, x -> {
                x.crash(a);
                return 0;
            }, x -> x.crash(a));
        }
    }

    private void texts() {
        for (int i = 0; i < 20; i++) {
            maker.size();
            put(maker.spoilt(maker.policy(20)));
            call("load", GuardHouse::load, PlainHouse::load);
            events(maker.spoilt(maker.events()));
        }
        state();
    }
}
