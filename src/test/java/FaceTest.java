import java.lang.reflect.Constructor;
import java.lang.reflect.Field;
import java.lang.reflect.Member;
import java.lang.reflect.Method;
import java.lang.reflect.Modifier;
import java.util.Arrays;
import java.util.Set;
import java.util.TreeSet;

/**
 * The class has the members of the document's public face, and no other that isn't private; its members keep to
 * those rules of LANGUAGE.md that can be read from them.
 */
public final class FaceTest {
    private static final Set<String> FACE = new TreeSet<>(Arrays.asList(
        "public static final int BAD_ARG",
        "public static final int UNMAPPED",
        "public static final int READ_ONLY",
        "public VipCache()",
        "public int VipCache.map(int,int,int)",
        "public int VipCache.unmap(int)",
        "public int VipCache.frameOf(int)",
        "public int VipCache.allow(int,int)",
        "public int VipCache.load(int,int)",
        "public int VipCache.store(int,int,int)",
        "public int VipCache.trade(int,int,int)",
        "public int VipCache.fault()",
        "public int VipCache.word(int,int)",
        "public int VipCache.setWord(int,int,int)",
        "public int VipCache.copyFrame(int,int)",
        "public int VipCache.marks(int)",
        "public int VipCache.clearMarks(int)",
        "public int VipCache.shown(int)",
        "public int VipCache.dirtyPages()",
        "public void VipCache.flush()",
        "public int VipCache.forget(int)",
        "public int VipCache.warm(int)"));

    private static boolean isOpen(Member m) {
        return !Modifier.isPrivate(m.getModifiers()) && !m.isSynthetic();
    }

    private static Set<String> openMembers() {
        Set<String> found = new TreeSet<>();
        for (Field f : VipCache.class.getDeclaredFields()) {
            if (isOpen(f)) {
                found.add(f.toString().replace("VipCache.", ""));
            }
        }
        for (Constructor<?> c : VipCache.class.getDeclaredConstructors()) {
            if (isOpen(c)) {
                found.add(c.toString());
            }
        }
        for (Method m : VipCache.class.getDeclaredMethods()) {
            if (isOpen(m)) {
                found.add(m.toString());
            }
        }
        return found;
    }

    private static int staticFieldsThatAreNotNumbers() {
        int count = 0;
        for (Field f : VipCache.class.getDeclaredFields()) {
            boolean number = f.getType() == int.class || f.getType() == long.class;
            if (Modifier.isStatic(f.getModifiers()) && !(number && Modifier.isFinal(f.getModifiers()))) {
                count++;
            }
        }
        return count;
    }

    private static final Set<Class<?>> NUMBERS = Set.of(int.class, long.class, short.class, byte.class, char.class,
        boolean.class);

    private static int fieldsOfOtherTypes() {
        int count = 0;
        for (Field f : VipCache.class.getDeclaredFields()) {
            Class<?> type = f.getType().isArray() ? f.getType().getComponentType() : f.getType();
            if (!NUMBERS.contains(type)) {
                count++;
            }
        }
        return count;
    }

    private static int privateMethodsWithPublicNames() {
        Set<String> names = new TreeSet<>();
        for (Method m : VipCache.class.getMethods()) {
            names.add(m.getName());
        }
        int count = 0;
        for (Method m : VipCache.class.getDeclaredMethods()) {
            if (Modifier.isPrivate(m.getModifiers()) && names.contains(m.getName())) {
                count++;
            }
        }
        return count;
    }

    private static int methodsWithTooManyParameters() {
        int count = 0;
        for (Method m : VipCache.class.getDeclaredMethods()) {
            if (m.getParameterCount() > 7) {
                count++;
            }
        }
        return count;
    }

    public static void main(String[] args) {
        int wrong = 0;
        Set<String> found = openMembers();
        for (String member : FACE) {
            if (!found.contains(member)) {
                wrong++;
                System.out.println("missing: " + member);
            }
        }
        for (String member : found) {
            if (!FACE.contains(member)) {
                wrong++;
                System.out.println("not in the face: " + member);
            }
        }
        int modifiers = VipCache.class.getModifiers();
        if (!Modifier.isPublic(modifiers) || !Modifier.isFinal(modifiers)) {
            wrong++;
            System.out.println("the class is not public and final");
        }
        if (VipCache.class.getDeclaredClasses().length != 0) {
            wrong++;
            System.out.println("the class has a nested class");
        }
        if (staticFieldsThatAreNotNumbers() != 0) {
            wrong++;
            System.out.println("a static field is not a constant of int or long");
        }
        if (fieldsOfOtherTypes() != 0) {
            wrong++;
            System.out.println("a field is neither a whole number or boolean nor an array of these");
        }
        if (privateMethodsWithPublicNames() != 0) {
            wrong++;
            System.out.println("a private method bears the name of a public one");
        }
        if (methodsWithTooManyParameters() != 0) {
            wrong++;
            System.out.println("a method takes more than seven parameters");
        }
        if (wrong != 0) {
            System.exit(1);
        }
    }
}
