import java.util.concurrent.Callable;

/** Compares answers with those that are due, and counts the wrong ones. */
final class Due {
    /** A call without an answer. */
    interface Act {
        void done() throws Exception;
    }

    private int wrong;

    void is(String what, long want, long got) {
        if (want != got) {
            wrong++;
            System.out.println(what + ": answered " + got + ", due is " + want);
        }
    }

    void fails(String what, Class<? extends Exception> want, Callable<?> call) {
        Class<?> got = null;
        try {
            call.call();
        } catch (Exception thrown) {
            got = thrown.getClass();
        }
        if (got != want) {
            wrong++;
            System.out.println(what + ": threw " + got + ", due is " + want);
        }
    }

    void failsToDo(String what, Class<? extends Exception> want, Act act) {
        fails(what, want, () -> {
            act.done();
            return null;
        });
    }

    void finish() {
        if (wrong > 0) {
            System.out.println(wrong + " answers are not as due");
            System.exit(1);
        }
    }

    static void put(GuardHouse house, String text) {
        for (int i = 0; i < text.length(); i += 4) {
            int signs = 0;
            for (int j = 0; j < 4 && i + j < text.length(); j++) {
                signs |= text.charAt(i + j) << (8 * j);
            }
            house.put(signs);
        }
    }

    /** Loads a text in place of the one that is there. */
    static int load(GuardHouse house, String text) {
        house.end(0);
        put(house, text);
        return house.load();
    }

    /** A new house with this policy. */
    static GuardHouse with(String text) {
        GuardHouse house = new GuardHouse();
        if (load(house, text) != GuardHouse.NONE) {
            throw new IllegalStateException("a test's policy has a fault at " + house.load());
        }
        return house;
    }

    static int events(GuardHouse house, String text) {
        house.end(0);
        put(house, text);
        return house.events();
    }
}
