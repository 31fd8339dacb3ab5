import java.lang.reflect.Constructor;
import java.lang.reflect.Field;
import java.lang.reflect.Method;
import java.lang.reflect.Modifier;
import java.util.Set;
import java.util.TreeSet;

/** The document's face, whole and nothing more: members, their types, what they throw, and the constants' values. */
public final class FaceTest {
    private static final String ARGUMENT = " throws IllegalArgumentException";
    private static final String STATE = " throws IllegalStateException";
    private static final String OF_ACTS = STATE + ", IllegalArgumentException, java.util.NoSuchElementException;";
    private static final String[] CONSTANTS = {"NONE", "DENIED", "NOT_THERE", "NO_DIRECTORY", "IS_DIRECTORY", "EXISTS",
        "NO_ROOM", "NOT_EMPTY", "NO_HANDLE", "WRONG_MODE", "NO_CONTEXT", "WAITS", "BROKEN", "INSIDE"};
    private static final String[] CALLS = {
        "public GuardHouse();",
        "public int put(int signs)" + ARGUMENT + ", UnsupportedOperationException;",
        "public void end(int n)" + ARGUMENT + ";",
        "public int load()" + STATE + ";",
        "public int policy(int what)" + STATE + ", IllegalArgumentException;",
        "public int vector(int source, int target, int kind)" + STATE + ", IllegalArgumentException;",
        "public int move(int source, int target, int kind)" + STATE + ", IllegalArgumentException;",
        "public int identifier(int context)" + ARGUMENT + ";",
        "public int onPath(int p, int kind, int path)" + OF_ACTS,
        "public int onPaths(int p, int kind, int path, int other)" + OF_ACTS,
        "public int onHandle(int p, int kind, int h)" + OF_ACTS,
        "public int write(int p, int h, int b)" + OF_ACTS,
        "public int seek(int p, int h, int at)" + OF_ACTS,
        "public int alone(int p, int kind)" + OF_ACTS,
        "public int onProcess(int p, int kind, int q)" + OF_ACTS,
        "public int switchTo(int p, int context)" + OF_ACTS,
        "public void label(int n, int context)" + OF_ACTS,
        "public int context(int i, int what)" + ARGUMENT + ";",
        "public int node(int n, int what)" + ARGUMENT + ", java.util.NoSuchElementException;",
        "public int record(int i, int what) throws IndexOutOfBoundsException, IllegalArgumentException;",
        "public int about(int what)" + ARGUMENT + ";",
        "public int events();",
        "public int result(int i) throws IndexOutOfBoundsException;",
        "public void sync();",
        "public void crash(int n)" + STATE + ", IllegalArgumentException;"};
    private static final Due DUE = new Due();

    public static void main(String[] args) throws IllegalAccessException {
        Set<String> due = new TreeSet<>();
        Document document = new Document();
        for (String line : face()) {
            DUE.is("the document has " + line, 1, document.has("What it is", line) ? 1 : 0);
            due.add(line.replaceAll("int \\w+([,)])", "int$1").replace(", ", ",").replace(";", ""));
        }
        Set<String> seen = members();
        DUE.is("a face of " + seen + ", due is " + due, 1, seen.equals(due) ? 1 : 0);
        DUE.is("public and final", Modifier.PUBLIC | Modifier.FINAL, GuardHouse.class.getModifiers());
        DUE.is("the document has the class", 1, document.has("What it is", "public final class GuardHouse {") ? 1 : 0);
        DUE.finish();
    }

    private static String[] face() {
        String[] lines = new String[CONSTANTS.length + CALLS.length];
        for (int i = 0; i < CONSTANTS.length; i++) {
            lines[i] = "public static final int " + CONSTANTS[i] + " = " + (-1 - i) + ";";
        }
        System.arraycopy(CALLS, 0, lines, CONSTANTS.length, CALLS.length);
        return lines;
    }

    /** All but the private ones, as the document writes them, without names of parameters. */
    private static Set<String> members() throws IllegalAccessException {
        Set<String> seen = new TreeSet<>();
        for (Field field : GuardHouse.class.getDeclaredFields()) {
            if (!Modifier.isPrivate(field.getModifiers())) {
                seen.add(plain(field.toString()) + " = " + field.getInt(null));
            }
        }
        for (Method method : GuardHouse.class.getDeclaredMethods()) {
            if (!Modifier.isPrivate(method.getModifiers())) {
                seen.add(plain(method.toString()));
            }
        }
        for (Constructor<?> constructor : GuardHouse.class.getDeclaredConstructors()) {
            seen.add(plain(constructor.toString()));
        }
        return seen;
    }

    private static String plain(String member) {
        return member.replace("GuardHouse.", "").replace("java.lang.", "");
    }
}
