import java.lang.reflect.Constructor;
import java.lang.reflect.Field;
import java.lang.reflect.Method;
import java.lang.reflect.Modifier;
import java.util.Arrays;
import java.util.Set;
import java.util.TreeSet;

/** The public face is the document's, and nothing else of the class can be seen from outside. */
public final class FaceTest {
    private static final Set<String> FACE = new TreeSet<>(Arrays.asList(
            "public static final int NONE",
            "public ColourLessen(int, int)",
            "public boolean put(int, int, int, int, int, int) IndexOutOfBoundsException IllegalArgumentException",
            "public int paint(int, int, int, int, int) IndexOutOfBoundsException IllegalArgumentException",
            "public int at(int, int) IndexOutOfBoundsException",
            "public int run(int, int, int) IllegalArgumentException",
            "public int given(int, int, int, int, int) IndexOutOfBoundsException IllegalArgumentException",
            "public int colour(int, int) IllegalStateException IndexOutOfBoundsException",
            "public int index(int, int) IllegalStateException IndexOutOfBoundsException",
            "public int nearest(int, int, int, int) IllegalStateException IllegalArgumentException",
            "public long sum(int) IllegalStateException IndexOutOfBoundsException",
            "public int dither(int) IllegalStateException IllegalArgumentException",
            "public int count(int) IllegalStateException IndexOutOfBoundsException",
            "public boolean exact() IllegalStateException",
            "public int told(int)",
            "public void clear()"));

    private static String list(Class<?>[] types) {
        StringBuilder s = new StringBuilder("(");
        for (Class<?> type : types) {
            s.append(s.length() == 1 ? "" : ", ").append(type.getSimpleName());
        }
        return s.append(')').toString();
    }

    private static String thrown(Class<?>[] types) {
        StringBuilder s = new StringBuilder();
        for (Class<?> type : types) {
            s.append(' ').append(type.getSimpleName());
        }
        return s.toString();
    }

    private static Set<String> found(Class<?> type) {
        Set<String> found = new TreeSet<>();
        for (Field f : type.getDeclaredFields()) {
            if (!Modifier.isPrivate(f.getModifiers()) && !f.isSynthetic()) {
                found.add(Modifier.toString(f.getModifiers()) + " " + f.getType().getSimpleName() + " " + f.getName());
            }
        }
        for (Constructor<?> c : type.getDeclaredConstructors()) {
            if (!Modifier.isPrivate(c.getModifiers()) && !c.isSynthetic()) {
                found.add(Modifier.toString(c.getModifiers()) + " " + type.getSimpleName()
                        + list(c.getParameterTypes()) + thrown(c.getExceptionTypes()));
            }
        }
        for (Method m : type.getDeclaredMethods()) {
            if (!Modifier.isPrivate(m.getModifiers()) && !m.isSynthetic()) {
                found.add(Modifier.toString(m.getModifiers()) + " " + m.getReturnType().getSimpleName() + " "
                        + m.getName() + list(m.getParameterTypes()) + thrown(m.getExceptionTypes()));
            }
        }
        return found;
    }

    /** A private method with the name of a public one is outside LANGUAGE.md. */
    private static boolean hidesName(Class<?> type) {
        for (Method hidden : type.getDeclaredMethods()) {
            for (Method shown : type.getDeclaredMethods()) {
                if (Modifier.isPrivate(hidden.getModifiers()) && Modifier.isPublic(shown.getModifiers())
                        && hidden.getName().equals(shown.getName())) {
                    return true;
                }
            }
        }
        return false;
    }

    public static void main(String[] args) {
        Class<?> type = ColourLessen.class;
        boolean right = found(type).equals(FACE) && !hidesName(type) && ColourLessen.NONE == -1
                && Modifier.isPublic(type.getModifiers()) && Modifier.isFinal(type.getModifiers());
        for (Class<?> inside : type.getDeclaredClasses()) {
            right &= Modifier.isStatic(inside.getModifiers()) && !Modifier.isPublic(inside.getModifiers());
        }
        System.out.println(right ? "the face is the document's" : "another face: " + found(type));
        if (!right) {
            System.exit(1);
        }
    }
}
