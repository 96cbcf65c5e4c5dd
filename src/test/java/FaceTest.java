import java.lang.reflect.Field;
import java.lang.reflect.Method;
import java.lang.reflect.Modifier;
import java.util.Arrays;
import java.util.Set;
import java.util.TreeSet;

/** The public face, the language's rules that can be seen from outside, and rule 7: no call throws, in any state. */
public final class FaceTest {
    private static final Set<String> FACE = new TreeSet<>(Arrays.asList(
        "store 4", "get 1", "has 1", "number 1", "swap 3", "add 2", "touch 2",
        "remove 1", "tick 1", "items 1", "pages 1", "oldest 1"));

    public static void main(String[] args) {
        classIsAlone();
        publicMethodsAreTheFace();
        fieldsArePrivate();
        noCallThrowsLongAfterTheLastPromisedOne();
        Checks.finish();
    }

    private static void classIsAlone() {
        int modifiers = SlabCache.class.getModifiers();
        Checks.due("the class is public and final", modifiers, Modifier.PUBLIC | Modifier.FINAL);
        Checks.due("nested classes", SlabCache.class.getDeclaredClasses().length, 0);
        Checks.due("constructors", SlabCache.class.getDeclaredConstructors().length, 1);
        Checks.due("public constructors", SlabCache.class.getConstructors().length, 1);
    }

    private static void publicMethodsAreTheFace() {
        Set<String> found = new TreeSet<>();
        Set<String> privateNames = new TreeSet<>();
        for (Method method : SlabCache.class.getDeclaredMethods()) {
            if (Modifier.isPrivate(method.getModifiers())) {
                privateNames.add(method.getName());
                continue;
            }
            found.add(method.getName() + " " + method.getParameterCount());
            checkFaceMethod(method);
        }
        if (!found.equals(FACE)) {
            Checks.fault("the methods are " + found + ", due are " + FACE);
        }
        for (String entry : FACE) {
            if (privateNames.contains(entry.split(" ")[0])) {
                Checks.fault("a private method bears the name of " + entry);
            }
        }
    }

    private static void checkFaceMethod(Method method) {
        boolean takesInts = Arrays.stream(method.getParameterTypes()).allMatch(type -> type == int.class);
        if (method.getModifiers() != Modifier.PUBLIC || method.getReturnType() != int.class || !takesInts) {
            Checks.fault("not as in the document's face: " + method);
        }
    }

    private static void fieldsArePrivate() {
        for (Field field : SlabCache.class.getDeclaredFields()) {
            int modifiers = field.getModifiers();
            Class<?> type = field.getType().isArray() ? field.getType().getComponentType() : field.getType();
            if (!Modifier.isPrivate(modifiers)) {
                Checks.fault("not private: " + field);
            }
            if (!type.isPrimitive() || type == float.class || type == double.class) {
                Checks.fault("a type outside the language: " + field);
            }
            boolean constant = Modifier.isFinal(modifiers) && (type == int.class || type == long.class)
                && !field.getType().isArray();
            if (Modifier.isStatic(modifiers) && !constant) {
                Checks.fault("a static field that is no constant: " + field);
            }
        }
    }

    private static void noCallThrowsLongAfterTheLastPromisedOne() {
        int[] words = {Integer.MIN_VALUE, -1, 0, 1, 2, 3, 4, 7, 12, 13, 255, 256, 1000, 1001, Integer.MAX_VALUE};
        SlabCache c = new SlabCache();
        // Enough steps of 1000 to carry the clock past the greatest int.
        for (int i = 0; i < 2_200_000; i++) {
            c.tick(1000);
        }
        for (int i = 0; i < 500_000; i++) {
            int a = words[i % words.length];
            int b = words[i / words.length % words.length];
            int d = words[i / 225 % words.length];
            c.store(i % 300, b, a, d);
            c.store(a, b, i, d);
            c.get(a);
            c.has(a);
            c.number(a);
            c.swap(a, b, d);
            c.add(a, b);
            c.touch(a, d);
            c.tick(a);
            c.items(a);
            c.pages(a);
            c.oldest(a);
            c.remove(b);
        }
    }
}
