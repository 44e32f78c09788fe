import java.lang.reflect.Constructor;
import java.lang.reflect.Field;
import java.lang.reflect.Method;
import java.lang.reflect.Modifier;
import java.util.Arrays;
import java.util.Set;
import java.util.TreeSet;

/** The class has the document's public face and no other, and only fields that the language rules allow. */
public final class FaceTest {
    private static final Set<String> FACE = new TreeSet<>(Arrays.asList(
            "BAD_NUMBER = -1", "EXISTS = -2", "NO_FILE = -3", "NO_SERVER = -4", "UNAVAILABLE = -5",
            "BAD_CELL = -6", "FULL = -7", "ChunkCluster/1", "create/1", "remove/1", "write/3", "append/2",
            "snapshot/2", "crash/1", "restart/1", "loseDisk/1", "damage/2", "heal/0", "read/2", "length/1",
            "replicas/1"));

    private static int wrong = 0;

    public static void main(String[] args) throws IllegalAccessException {
        Class<?> c = ChunkCluster.class;
        expect(Modifier.isPublic(c.getModifiers()) && Modifier.isFinal(c.getModifiers()), "public and final");
        expect(c.getDeclaredClasses().length == 0, "no nested class");
        expect(c.getInterfaces().length == 0 && c.getSuperclass() == Object.class, "no other type");
        Set<String> seen = new TreeSet<>();
        Set<String> privateNames = new TreeSet<>();
        for (Field f : c.getDeclaredFields()) {
            checkField(f, seen);
        }
        for (Constructor<?> k : c.getDeclaredConstructors()) {
            seen.add("ChunkCluster/" + k.getParameterCount());
            expect(Modifier.isPublic(k.getModifiers()), "a public constructor");
            expect(allInts(k.getParameterTypes()), "the constructor takes ints");
        }
        for (Method m : c.getDeclaredMethods()) {
            expect(m.getParameterCount() <= 7, "at most seven parameters: " + m);
            if (Modifier.isPrivate(m.getModifiers())) {
                privateNames.add(m.getName());
                continue;
            }
            seen.add(m.getName() + "/" + m.getParameterCount());
            expect(Modifier.isPublic(m.getModifiers()) && !Modifier.isStatic(m.getModifiers()), "public, not static: " + m);
            expect(m.getReturnType() == int.class && allInts(m.getParameterTypes()), "ints alone: " + m);
        }
        expect(seen.equals(FACE), "the face is " + FACE + ", but is " + seen);
        for (String name : privateNames) {
            expect(FACE.stream().noneMatch(f -> f.startsWith(name + "/")), "private method with a public name: " + name);
        }
        System.exit(wrong == 0 ? 0 : 1);
    }

    private static void checkField(Field f, Set<String> seen) throws IllegalAccessException {
        boolean constant = Modifier.isStatic(f.getModifiers());
        Class<?> type = f.getType();
        if (constant) {
            expect(Modifier.isFinal(f.getModifiers()) && (type == int.class || type == long.class), "a constant: " + f);
        }
        Class<?> element = type.isArray() ? type.getComponentType() : type;
        expect(element.isPrimitive() && element != float.class && element != double.class, "whole numbers: " + f);
        if (!Modifier.isPrivate(f.getModifiers())) {
            expect(constant && Modifier.isPublic(f.getModifiers()), "no visible field but the constants: " + f);
            seen.add(f.getName() + " = " + f.get(null));
        }
    }

    private static boolean allInts(Class<?>[] types) {
        return Arrays.stream(types).allMatch(t -> t == int.class);
    }

    private static void expect(boolean holds, String what) {
        if (!holds) {
            wrong++;
            System.out.println("FaceTest: not so: " + what);
        }
    }
}
