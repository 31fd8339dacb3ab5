import java.lang.reflect.Constructor;
import java.lang.reflect.Field;
import java.lang.reflect.Method;
import java.lang.reflect.Modifier;
import java.util.Arrays;
import java.util.Set;
import java.util.TreeSet;

/** The document's face, whole and nothing more, and the constants' values. */
public final class FaceTest {
    private static final String CONSTANTS = "NONE DENIED NOT_THERE NO_DIRECTORY IS_DIRECTORY EXISTS NO_ROOM NOT_EMPTY NO_HANDLE "
            + "WRONG_MODE NO_CONTEXT WAITS BROKEN INSIDE";
    private static final String METHODS = "int put 1,void end 1,int load 0,int policy 1,int vector 3,int move 3,int identifier 1,"
            + "int onPath 3,int onPaths 4,int onHandle 3,int write 3,int seek 3,int alone 2,int onProcess 3,int switchTo 2,"
            + "void label 2,int context 2,int node 2,int record 2,int about 1,int events 0,int result 1,void sync 0,void crash 1";
    private static final Due DUE = new Due();

    public static void main(String[] args) throws IllegalAccessException {
        constants();
        methods();
        Constructor<?>[] constructors = GuardHouse.class.getDeclaredConstructors();
        DUE.is("one constructor", 1, constructors.length);
        DUE.is("public", Modifier.PUBLIC, constructors[0].getModifiers());
        DUE.is("public and final", Modifier.PUBLIC | Modifier.FINAL, GuardHouse.class.getModifiers());
        for (Class<?> inside : GuardHouse.class.getDeclaredClasses()) {
            DUE.is(inside + " is static and not seen", Modifier.STATIC,
                    inside.getModifiers() & (Modifier.STATIC | Modifier.PUBLIC | Modifier.PROTECTED));
        }
        DUE.finish();
    }

    private static void constants() throws IllegalAccessException {
        String[] names = CONSTANTS.split(" ");
        Set<String> seen = new TreeSet<>();
        for (Field field : GuardHouse.class.getDeclaredFields()) {
            if (!Modifier.isPrivate(field.getModifiers())) {
                seen.add(field.getName());
                DUE.is(field.getName(), -1 - Arrays.asList(names).indexOf(field.getName()), field.getInt(null));
                DUE.is(field + " is final", Modifier.PUBLIC | Modifier.STATIC | Modifier.FINAL, field.getModifiers());
            }
        }
        DUE.is("all constants " + seen, 1, seen.equals(new TreeSet<>(Arrays.asList(names))) ? 1 : 0);
    }

    private static void methods() {
        Set<String> seen = new TreeSet<>();
        for (Method method : GuardHouse.class.getDeclaredMethods()) {
            if (!Modifier.isPrivate(method.getModifiers())) {
                seen.add(method.getReturnType() + " " + method.getName() + " " + method.getParameterCount());
                DUE.is(method + " is public", Modifier.PUBLIC, method.getModifiers());
            }
        }
        DUE.is("all methods " + seen, 1, seen.equals(new TreeSet<>(Arrays.asList(METHODS.split(",")))) ? 1 : 0);
    }
}
