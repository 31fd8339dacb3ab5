/** Promises 1 to 3: a new object, put and end. */
public final class TextTest {
    private static final Class<IllegalArgumentException> ARGUMENT = IllegalArgumentException.class;
    private static final Due DUE = new Due();

    public static void main(String[] args) {
        newObject();
        puts();
        ends();
        DUE.finish();
    }

    private static void newObject() {
        GuardHouse house = new GuardHouse();
        DUE.is("an empty text", 0, house.put(0));
        DUE.fails("no policy", IllegalStateException.class, () -> house.policy(0));
        DUE.failsToDo("end of an empty text", ARGUMENT, () -> house.end(1));
        DUE.is("no process", GuardHouse.NONE, house.context(0, 0));
        DUE.is("no root", GuardHouse.NONE, house.context(0, 1));
        DUE.is("no pipe", GuardHouse.NONE, house.context(0, 2));
        DUE.is("no events", 0, house.result(GuardHouse.NONE));
        for (int i = 0; i < 8; i++) {
            DUE.is("about", 0, house.about(i));
        }
    }

    private static void puts() {
        GuardHouse house = new GuardHouse();
        DUE.is("four signs", 4, house.put(0x64636261));
        DUE.is("zeros are left out", 6, house.put(0x00620061));
        DUE.is("the edges", 10, house.put(0x0a207e0a));
        for (int bad : new int[] {9, 11, 31, 127, 128, 200, 255}) {
            for (int shift = 0; shift < 32; shift += 8) {
                int signs = (0x61616161 & ~(255 << shift)) | bad << shift;
                DUE.fails("a wrong sign", ARGUMENT, () -> house.put(signs));
            }
        }
        DUE.is("nothing was added", 10, house.put(0));
        for (int i = 10; i < 1198; i += 4) {
            DUE.is("more", i + 4, house.put(0x20202020));
        }
        DUE.fails("1202 signs", UnsupportedOperationException.class, () -> house.put(0x20202020));
        DUE.fails("a wrong sign goes first", ARGUMENT, () -> house.put(0x20202009));
        DUE.is("1200 signs", 1200, house.put(0x20002000));
        DUE.is("none more", 1200, house.put(0));
        DUE.fails("1201 signs", UnsupportedOperationException.class, () -> house.put(0x20000000));
        DUE.is("still full", 1200, house.put(0));
    }

    private static void ends() {
        GuardHouse house = new GuardHouse();
        Due.put(house, "type a; role");
        DUE.failsToDo("below 0", ARGUMENT, () -> house.end(-1));
        DUE.failsToDo("above", ARGUMENT, () -> house.end(13));
        house.end(12);
        DUE.is("all stay", 12, house.put(0));
        house.end(7);
        DUE.is("seven stay", 7, house.put(0));
        Due.put(house, "role r{a};user u{r};");
        DUE.is("the first signs stand", GuardHouse.NONE, house.load());
        house.end(0);
        DUE.is("none stay", 0, house.put(0));
    }
}
