import java.lang.reflect.Constructor;
import java.lang.reflect.Field;
import java.lang.reflect.Method;
import java.lang.reflect.Modifier;
import java.util.Arrays;
import java.util.HashSet;
import java.util.List;
import java.util.Set;
import java.util.TreeSet;

/** The public face as the document writes it, and nothing beside it that is not private. */
public final class FaceTest {
    private static final List<String> METHODS = List.of(
            "int addBase(int) IllegalArgumentException IllegalStateException",
            "int edit(int, int, int) IndexOutOfBoundsException IllegalArgumentException",
            "int move(int, int, int) IndexOutOfBoundsException",
            "int insert(int, int, int) IndexOutOfBoundsException IllegalArgumentException IllegalStateException",
            "int remove(int, int) IndexOutOfBoundsException",
            "int baseSize()",
            "int size(int) IndexOutOfBoundsException",
            "int block(int, int) IndexOutOfBoundsException",
            "int content(int, int) IndexOutOfBoundsException",
            "int change(int, int) IndexOutOfBoundsException",
            "int moves(int) IndexOutOfBoundsException",
            "int mergedSize()",
            "int mergedBlock(int) IndexOutOfBoundsException",
            "int mergedContent(int) IndexOutOfBoundsException",
            "int conflicts()",
            "int conflictBlock(int) IndexOutOfBoundsException",
            "int conflictKind(int) IndexOutOfBoundsException",
            "int choose(int, int) IndexOutOfBoundsException IllegalArgumentException",
            "int prefer(int) IndexOutOfBoundsException",
            "int open()",
            "int accept() IllegalStateException",
            "int accepted()",
            "double similarity(int) IndexOutOfBoundsException",
            "int append(int) IllegalArgumentException IllegalStateException",
            "int clearText()",
            "int firstError()",
            "int run() IllegalArgumentException",
            "int undo() IllegalStateException",
            "int savedStates()",
            "long digest()");

    public static void main(String[] args) {
        Class<?> c = DraftMerge.class;
        Due.is("the class is public and final", c.getModifiers(), Modifier.PUBLIC | Modifier.FINAL);
        Due.isText("methods", methods(c).toString(), new TreeSet<>(METHODS).toString());
        constructors(c);
        fields(c);
        classesInside(c);
        Due.end("FaceTest");
    }

    private static Set<String> methods(Class<?> c) {
        Set<String> found = new TreeSet<>();
        Set<String> publicNames = new HashSet<>();
        for (Method m : c.getDeclaredMethods()) {
            if (!Modifier.isPrivate(m.getModifiers()) && !m.isSynthetic()) {
                found.add(signature(m));
                publicNames.add(m.getName());
                Due.is(m + " is public and no more", m.getModifiers(), Modifier.PUBLIC);
            }
        }
        for (Method m : c.getDeclaredMethods()) {
            if (Modifier.isPrivate(m.getModifiers()) && publicNames.contains(m.getName())) {
                Due.isText("a private method", m.toString(), "none with a public one's name");
            }
        }
        return found;
    }

    private static String signature(Method m) {
        String types = Arrays.toString(m.getParameterTypes());
        StringBuilder text = new StringBuilder();
        text.append(m.getReturnType()).append(' ').append(m.getName());
        text.append('(').append(types, 1, types.length() - 1).append(')');
        for (Class<?> thrown : m.getExceptionTypes()) {
            text.append(' ').append(thrown.getSimpleName());
        }
        return text.toString();
    }

    private static void constructors(Class<?> c) {
        Constructor<?>[] all = c.getDeclaredConstructors();
        Due.is("constructors", all.length, 1);
        Due.isText("the constructor", all[0].toString(), "public DraftMerge()");
    }

    private static void fields(Class<?> c) {
        for (Field f : c.getDeclaredFields()) {
            if (f.isSynthetic()) {
                continue;
            }
            boolean isNone = f.getName().equals("NONE");
            int shown = f.getModifiers() & (Modifier.PUBLIC | Modifier.PROTECTED | Modifier.PRIVATE);
            Due.is(f.getName() + " is shown", shown, isNone ? Modifier.PUBLIC : Modifier.PRIVATE);
            if (Modifier.isStatic(f.getModifiers())) {
                Due.is(f.getName() + " is final", f.getModifiers() & Modifier.FINAL, Modifier.FINAL);
            }
        }
        Due.is("NONE", DraftMerge.NONE, -1);
    }

    private static void classesInside(Class<?> c) {
        for (Class<?> inside : c.getDeclaredClasses()) {
            int bad = Modifier.PUBLIC | Modifier.PROTECTED;
            Due.is(inside + " is not shown", inside.getModifiers() & bad, 0);
            Due.is(inside + " is static", inside.getModifiers() & Modifier.STATIC, Modifier.STATIC);
        }
    }
}
