import java.lang.reflect.Constructor;
import java.lang.reflect.Field;
import java.lang.reflect.Member;
import java.lang.reflect.Method;
import java.lang.reflect.Modifier;
import java.util.Map;
import java.util.TreeMap;
import java.util.TreeSet;

/** The class has the document's public face, and nothing beside it that is not private. */
public final class FaceTest {
    private static final String[] METHODS = {
        "append 1", "clearText 0", "load 0", "remove 1", "setHard 2", "setWeight 2", "setStrategy 1", "step 0", "finish 0",
        "undo 0", "seed 0", "unexploredCount 0", "musCount 0", "mus 1", "mssCount 0", "mss 1", "weight 1", "violated 1",
        "modelCount 1", "firstModel 1", "grown 1", "shrunk 1", "critical 1", "smallestHittingSet 0", "cheapestHittingSet 0",
        "heaviestSatisfiable 0", "blame 1", "save 1", "restore 1", "constraintCount 0", "softConstraints 0", "undoDepth 0",
    };

    private static boolean failed = false;

    public static void main(String[] args) throws IllegalAccessException {
        Class<?> face = ConflictEnumerator.class;
        check("the class is public and final", Modifier.isPublic(face.getModifiers()) && Modifier.isFinal(face.getModifiers()));
        constructors(face);
        methods(face);
        constants(face);
        nestedClasses(face);
        if (failed) {
            System.exit(1);
        }
    }

    private static void check(String what, boolean holds) {
        if (!holds) {
            failed = true;
            System.out.println("does not hold: " + what);
        }
    }

    private static void constructors(Class<?> face) {
        Constructor<?>[] found = face.getDeclaredConstructors();
        check("one public constructor without parameters", found.length == 1 && found[0].getParameterCount() == 0
            && Modifier.isPublic(found[0].getModifiers()));
    }

    private static void methods(Class<?> face) {
        TreeSet<String> due = new TreeSet<>();
        for (String method : METHODS) {
            due.add(method);
        }
        TreeSet<String> found = new TreeSet<>();
        for (Method method : face.getDeclaredMethods()) {
            checkVisibility(method);
            if (Modifier.isPublic(method.getModifiers())) {
                found.add(method.getName() + " " + method.getParameterCount());
                check(method + " works on int alone", onInt(method) && !Modifier.isStatic(method.getModifiers()));
            }
        }
        check("the public methods are " + due + ", found " + found, due.equals(found));
    }

    private static boolean onInt(Method method) {
        for (Class<?> type : method.getParameterTypes()) {
            if (type != int.class) {
                return false;
            }
        }
        return method.getReturnType() == int.class && method.getExceptionTypes().length == 0;
    }

    private static void constants(Class<?> face) throws IllegalAccessException {
        Map<String, Integer> due = new TreeMap<>(Map.of("INVALID_ARGUMENT", -1, "ILLEGAL_STATE", -2,
            "CAPACITY_EXCEEDED", -3, "NONE", -9));
        Map<String, Integer> found = new TreeMap<>();
        for (Field field : face.getDeclaredFields()) {
            checkVisibility(field);
            int modifiers = field.getModifiers();
            check(field + " is final if it is static", !Modifier.isStatic(modifiers) || Modifier.isFinal(modifiers));
            if (Modifier.isPublic(modifiers)) {
                found.put(field.getName(), field.getInt(null));
            }
        }
        check("the constants are " + due + ", found " + found, due.equals(found));
    }

    private static void checkVisibility(Member member) {
        int modifiers = member.getModifiers();
        check(member + " is public or private", Modifier.isPublic(modifiers) || Modifier.isPrivate(modifiers));
    }

    private static void nestedClasses(Class<?> face) {
        TreeSet<String> faceNames = new TreeSet<>();
        for (String method : METHODS) {
            faceNames.add(method.substring(0, method.indexOf(' ')));
        }
        for (Class<?> nested : face.getDeclaredClasses()) {
            int modifiers = nested.getModifiers();
            check(nested + " is static and not public", Modifier.isStatic(modifiers) && !Modifier.isPublic(modifiers)
                && !Modifier.isProtected(modifiers));
            for (Method method : nested.getDeclaredMethods()) {
                check(method + " does not bear a public method's name", !faceNames.contains(method.getName()));
            }
        }
        check("at most twelve classes", face.getDeclaredClasses().length <= 12);
    }
}
