import java.lang.reflect.Constructor;
import java.lang.reflect.Field;
import java.lang.reflect.Method;
import java.lang.reflect.Modifier;
import java.util.Arrays;
import java.util.HashSet;
import java.util.Set;
import java.util.TreeSet;

/** The public face is the document's, and no other member can be seen from outside. */
public final class FaceTest {
    private static final Set<String> CONSTANTS = Set.of(
        "OK = 0", "OK_SWEPT = 1", "BAD_REG = -1", "BAD_SIZE = -2", "NO_SPACE = -3", "TAG_FAULT = -4",
        "BOUNDS_FAULT = -5", "NOT_BLOCK = -6", "BAD_BOUNDS = -7", "NREGS = 8", "FREE = 0", "LIVE = 1", "QUAR = 2",
        "F_TAG = 0", "F_BASE = 1", "F_LEN = 2", "F_ADDR = 3", "F_OWNER = 4", "F_STATE = 5", "STAT_FREE = 0",
        "STAT_QUAR = 1", "STAT_LIVE = 2", "STAT_SWEEPS = 3", "STAT_LARGEST = 4", "STAT_ALLOCS = 5", "STAT_HEAP = 6",
        "STAT_THRESHOLD = 7");
    private static final Set<String> METHODS = Set.of(
        "alloc 2", "free 1", "sweep 0", "move 2", "restrict 4", "addAddr 2", "storeData 2", "loadData 1", "storeCap 2",
        "loadCap 2", "loadedValue 0", "reg 2", "mem 2", "stat 1");

    private static int wrong = 0;

    public static void main(String[] args) throws ReflectiveOperationException {
        Class<?> face = RevokeQuarantine.class;
        check(face.getModifiers() == (Modifier.PUBLIC | Modifier.FINAL), "the class is public and final");
        check(face.getDeclaredClasses().length == 0, "there is no nested class");
        check(face.getSuperclass() == Object.class && face.getInterfaces().length == 0, "the class extends nothing");
        constructor(face);
        constants(face);
        methods(face);
        System.out.println("the face: " + wrong + " not as due");
        if (wrong != 0) {
            System.exit(1);
        }
    }

    private static void constructor(Class<?> face) {
        Constructor<?>[] all = face.getDeclaredConstructors();
        check(all.length == 1 && all[0].getModifiers() == Modifier.PUBLIC
            && Arrays.equals(all[0].getParameterTypes(), new Class<?>[] {int.class, int.class}),
            "the one constructor is public and takes two ints");
    }

    private static void constants(Class<?> face) throws ReflectiveOperationException {
        Set<String> seen = new TreeSet<>();
        for (Field field : face.getDeclaredFields()) {
            int modifiers = field.getModifiers();
            if (Modifier.isPublic(modifiers)) {
                check(Modifier.isStatic(modifiers) && Modifier.isFinal(modifiers) && field.getType() == int.class,
                    field.getName() + " is a constant");
                seen.add(field.getName() + " = " + field.getInt(null));
            } else {
                check(Modifier.isPrivate(modifiers), field.getName() + " is private");
            }
        }
        check(seen.equals(CONSTANTS), "the constants are the document's, not " + seen);
    }

    private static void methods(Class<?> face) {
        Set<String> seen = new TreeSet<>();
        Set<String> publicNames = new HashSet<>();
        for (Method method : face.getDeclaredMethods()) {
            if (method.getModifiers() == Modifier.PUBLIC) {
                check(method.getReturnType() == int.class
                    && Arrays.stream(method.getParameterTypes()).allMatch(type -> type == int.class),
                    method.getName() + " takes and answers ints");
                seen.add(method.getName() + " " + method.getParameterCount());
                publicNames.add(method.getName());
            } else {
                check(Modifier.isPrivate(method.getModifiers()), method.getName() + " is private");
            }
        }
        for (Method method : face.getDeclaredMethods()) {
            check(!Modifier.isPrivate(method.getModifiers()) || !publicNames.contains(method.getName()),
                "no private method is named as the public " + method.getName());
        }
        check(seen.equals(METHODS), "the methods are the document's, not " + seen);
    }

    private static void check(boolean holds, String what) {
        if (!holds) {
            wrong++;
            System.out.println("not so: " + what);
        }
    }
}
