import java.lang.reflect.Constructor;
import java.lang.reflect.Field;
import java.lang.reflect.Member;
import java.lang.reflect.Method;
import java.lang.reflect.Modifier;
import java.util.ArrayList;
import java.util.Arrays;
import java.util.List;
import java.util.TreeSet;

/** The public face: the signatures and constants of the document, and nothing else that can be seen. */
final class FaceTest {
    private static final String[] METHODS = {
        "int addCrane(int,int,int)", "int setPriority(int,int)", "int setArc(int,int,int,int)",
        "int removeArc(int,int)", "int cranes()", "int crane(int,int)", "int arc(int,int,boolean)",
        "int occupants(int)", "int conflicts()", "int slew(int,int,int)", "int stop(int)", "int turnRound(int)",
        "int tick(int)", "int time()", "int needs(int)", "int blocker(int)", "int cycle()", "int allDone()",
        "int done(int)", "int waits(int,int)", "int setWind(int)", "int leave(int,boolean)",
        "int override(int,int)", "int notes()", "int note(int,int)", "int clearNotes()", "int undo()",
        "int type(int)", "int clearText()", "int textFault()", "int command()", "long digest()"};
    private static final String[] CONSTANTS = {"NONE", "BAD_INDEX", "BAD_VALUE", "BAD_STATE", "FULL"};

    private FaceTest() {
    }

    static void run() {
        int modifiers = CraneGuard.class.getModifiers();
        Check.holds("CraneGuard is public and final", Modifier.isPublic(modifiers) && Modifier.isFinal(modifiers));
        methods();
        constants();
        constructors();
        nestedClasses();
    }

    private static void methods() {
        TreeSet<String> seen = new TreeSet<>();
        List<String> privateNames = new ArrayList<>();
        for (Method method : CraneGuard.class.getDeclaredMethods()) {
            if (isPrivate(method)) {
                privateNames.add(method.getName());
            } else {
                seen.add(signature(method));
            }
        }
        Check.holds("the methods are those of the document: " + seen,
                seen.equals(new TreeSet<>(Arrays.asList(METHODS))));
        for (String signature : METHODS) {
            String name = signature.substring(signature.indexOf(' ') + 1, signature.indexOf('('));
            Check.holds("no private method is named " + name, !privateNames.contains(name));
        }
    }

    private static String signature(Method method) {
        StringBuilder text = new StringBuilder();
        for (Class<?> type : method.getParameterTypes()) {
            text.append(text.length() == 0 ? "" : ",").append(type.getName());
        }
        return method.getReturnType().getName() + " " + method.getName() + "(" + text + ")";
    }

    private static void constants() {
        TreeSet<String> seen = new TreeSet<>();
        for (Field field : CraneGuard.class.getDeclaredFields()) {
            if (!isPrivate(field)) {
                seen.add(field.getName());
            }
        }
        Check.holds("the constants are those of the document: " + seen,
                seen.equals(new TreeSet<>(Arrays.asList(CONSTANTS))));
        Check.due("NONE", CraneGuard.NONE, -100);
        Check.due("BAD_INDEX", CraneGuard.BAD_INDEX, -101);
        Check.due("BAD_VALUE", CraneGuard.BAD_VALUE, -102);
        Check.due("BAD_STATE", CraneGuard.BAD_STATE, -103);
        Check.due("FULL", CraneGuard.FULL, -104);
    }

    private static void constructors() {
        Constructor<?>[] all = CraneGuard.class.getDeclaredConstructors();
        Check.holds("there is the one public constructor, without parameters", all.length == 1
                && Modifier.isPublic(all[0].getModifiers()) && all[0].getParameterCount() == 0);
    }

    private static void nestedClasses() {
        for (Class<?> inside : CraneGuard.class.getDeclaredClasses()) {
            int modifiers = inside.getModifiers();
            Check.holds(inside.getName() + " is static and not public", Modifier.isStatic(modifiers)
                    && !Modifier.isPublic(modifiers) && !Modifier.isProtected(modifiers));
        }
    }

    private static boolean isPrivate(Member member) {
        return Modifier.isPrivate(member.getModifiers());
    }
}
