import java.lang.reflect.Constructor;
import java.lang.reflect.Field;
import java.lang.reflect.Member;
import java.lang.reflect.Method;
import java.lang.reflect.Modifier;
import java.util.Arrays;
import java.util.Set;
import java.util.TreeSet;

/** The public face of the document, and those rules of LANGUAGE.md that a compiled class shows. */
final class FaceAndLanguage extends Check {
    private static final Class<?> SUBJECT = WaitFreeSnapshot.class;
    private static final Set<Class<?>> PLAIN = Set.of(
            int.class, long.class, short.class, byte.class, char.class, boolean.class,
            int[].class, long[].class, short[].class, byte[].class, char[].class, boolean[].class);

    public static void main(String[] args) throws ReflectiveOperationException {
        theClass();
        constants();
        constructor();
        publicMethods();
        nothingElseIsVisible();
        privateNamesDiffer();
        typesAreWholeNumbers();
        staticFieldsAreConstants();
        sizes();
        finish();
    }

    private static void require(String what, boolean holds) {
        due(what + " (1: so it is)", holds ? 1 : 0, 1);
    }

    private static void theClass() {
        require("the class is public and final",
                Modifier.isPublic(SUBJECT.getModifiers()) && Modifier.isFinal(SUBJECT.getModifiers()));
        require("the class has no package", SUBJECT.getPackageName().isEmpty());
        require("the class extends Object", SUBJECT.getSuperclass() == Object.class);
        due("interfaces", SUBJECT.getInterfaces().length, 0);
        due("nested classes", SUBJECT.getDeclaredClasses().length, 0);
    }

    private static void constants() throws ReflectiveOperationException {
        String[] names = {"OK", "BAD", "STOPPED", "BUSY", "FULL", "NO_WORK", "NONE", "CLEAN",
            "IDLE", "SCANNING", "UPDATING", "WRITING", "HALTED", "SNAPSHOT", "HELD", "MEMORY", "READS"};
        int[] values = {0, -1, -2, -3, -4, -5, -6, -7, 0, 1, 2, 3, 4, 0, 1, 2, 3};
        due("number of visible fields", visible(SUBJECT.getDeclaredFields()), names.length);
        for (int i = 0; i < names.length; i++) {
            Field field = SUBJECT.getField(names[i]);
            require(names[i] + " is a static final int", field.getType() == int.class
                    && Modifier.isStatic(field.getModifiers()) && Modifier.isFinal(field.getModifiers()));
            due(names[i], field.getInt(null), values[i]);
        }
    }

    private static void constructor() {
        Constructor<?>[] all = SUBJECT.getDeclaredConstructors();
        due("constructors", all.length, 1);
        require("it is public", Modifier.isPublic(all[0].getModifiers()));
        require("it takes two ints", Arrays.equals(all[0].getParameterTypes(), new Class<?>[] {int.class, int.class}));
    }

    private static void publicMethods() throws ReflectiveOperationException {
        String[] names = {"beginScan", "beginUpdate", "run", "schedule", "halt", "phase", "steps", "intent",
            "startedAt", "endedAt", "lender", "movedIn", "value", "count", "version"};
        int[] parameters = {1, 2, 2, 1, 1, 1, 1, 1, 1, 1, 1, 2, 3, 3, 2};
        due("number of visible methods", visible(SUBJECT.getDeclaredMethods()), names.length);
        for (int i = 0; i < names.length; i++) {
            Class<?>[] ints = new Class<?>[parameters[i]];
            Arrays.fill(ints, int.class);
            Method method = SUBJECT.getDeclaredMethod(names[i], ints);
            require(names[i] + " is public and no static", Modifier.isPublic(method.getModifiers())
                    && !Modifier.isStatic(method.getModifiers()));
            require(names[i] + " answers an int", method.getReturnType() == int.class);
        }
    }

    private static int visible(Member[] members) {
        int number = 0;
        for (Member member : members) {
            number += Modifier.isPrivate(member.getModifiers()) ? 0 : 1;
        }
        return number;
    }

    private static void nothingElseIsVisible() {
        for (Field field : SUBJECT.getDeclaredFields()) {
            require(field.getName() + " is public or private",
                    Modifier.isPublic(field.getModifiers()) || Modifier.isPrivate(field.getModifiers()));
        }
        for (Method method : SUBJECT.getDeclaredMethods()) {
            require(method.getName() + " is public or private",
                    Modifier.isPublic(method.getModifiers()) || Modifier.isPrivate(method.getModifiers()));
        }
    }

    private static void privateNamesDiffer() {
        Set<String> publicNames = new TreeSet<>();
        for (Method method : SUBJECT.getDeclaredMethods()) {
            if (Modifier.isPublic(method.getModifiers())) {
                publicNames.add(method.getName());
            }
        }
        for (Method method : SUBJECT.getDeclaredMethods()) {
            require(method.getName() + " is not the name of a public method too",
                    Modifier.isPublic(method.getModifiers()) || !publicNames.contains(method.getName()));
        }
    }

    private static void typesAreWholeNumbers() {
        for (Field field : SUBJECT.getDeclaredFields()) {
            require("the type of " + field.getName(), PLAIN.contains(field.getType()));
        }
        for (Method method : SUBJECT.getDeclaredMethods()) {
            Class<?> answer = method.getReturnType();
            require("the answer of " + method.getName(),
                    answer == void.class || PLAIN.contains(answer) && !answer.isArray());
            require("the parameters of " + method.getName(),
                    PLAIN.containsAll(Arrays.asList(method.getParameterTypes())));
            require("at most seven of them", method.getParameterCount() <= 7);
            due("exceptions of " + method.getName(), method.getExceptionTypes().length, 0);
            require("no synchronized", !Modifier.isSynchronized(method.getModifiers()));
        }
    }

    private static void staticFieldsAreConstants() {
        for (Field field : SUBJECT.getDeclaredFields()) {
            boolean constant = Modifier.isFinal(field.getModifiers())
                    && (field.getType() == int.class || field.getType() == long.class);
            require(field.getName() + " is a constant or no static", !Modifier.isStatic(field.getModifiers()) || constant);
        }
    }

    private static void sizes() {
        int fields = 0;
        for (Field field : SUBJECT.getDeclaredFields()) {
            fields += Modifier.isStatic(field.getModifiers()) ? 0 : 1;
        }
        require("at most forty fields, here " + fields, fields <= 40);
    }
}
