import java.lang.reflect.Constructor;
import java.lang.reflect.Field;
import java.lang.reflect.Method;
import java.lang.reflect.Modifier;
import java.util.ArrayList;
import java.util.HashSet;
import java.util.List;
import java.util.Set;
import java.util.TreeSet;

/** The public face as the document writes it, and nothing beside it that is not private. */
public final class FaceTest {
    public static void main(String[] args) throws IllegalAccessException {
        Class<?> c = DraftMerge.class;
        Set<String> want = faceOfTheDocument();
        Set<String> got = faceOf(c);
        tellWhatIsLeft("the class has not", want, got);
        tellWhatIsLeft("the document has not", got, want);
        Due.is("NONE", DraftMerge.NONE, -1);
        privateMembers(c);
        classesInside(c);
        Due.end("FaceTest");
    }

    private static void tellWhatIsLeft(String whose, Set<String> lines, Set<String> found) {
        for (String line : lines) {
            if (!found.contains(line)) {
                Due.tellOfTests(whose + ": " + line);
            }
        }
    }

    /** The document's lines without the names of the arguments, which a class does not keep. */
    private static Set<String> faceOfTheDocument() {
        Set<String> face = new TreeSet<>();
        for (String line : Document.face()) {
            face.add(line.replaceAll("\\b(int|long|double) \\w+(?=[,)])", "$1"));
        }
        return face;
    }

    private static Set<String> faceOf(Class<?> c) throws IllegalAccessException {
        Set<String> face = new TreeSet<>();
        face.add(Modifier.toString(c.getModifiers()) + " class " + c.getSimpleName() + " {");
        for (Field f : c.getDeclaredFields()) {
            if (isShown(f.getModifiers()) && !f.isSynthetic()) {
                String value = Modifier.isStatic(f.getModifiers()) ? " = " + f.get(null) : "";
                face.add(head(f.getModifiers(), f.getType()) + f.getName() + value + ";");
            }
        }
        for (Constructor<?> made : c.getDeclaredConstructors()) {
            face.add(Modifier.toString(made.getModifiers()) + " " + c.getSimpleName()
                    + tail(made.getParameterTypes(), made.getExceptionTypes()));
        }
        for (Method m : c.getDeclaredMethods()) {
            if (isShown(m.getModifiers()) && !m.isSynthetic()) {
                face.add(head(m.getModifiers(), m.getReturnType()) + m.getName()
                        + tail(m.getParameterTypes(), m.getExceptionTypes()));
            }
        }
        return face;
    }

    private static boolean isShown(int modifiers) {
        return !Modifier.isPrivate(modifiers);
    }

    private static String head(int modifiers, Class<?> type) {
        return Modifier.toString(modifiers) + " " + type.getSimpleName() + " ";
    }

    private static String tail(Class<?>[] arguments, Class<?>[] thrown) {
        String list = "(" + names(arguments) + ")";
        return thrown.length == 0 ? list + ";" : list + " throws " + names(thrown) + ";";
    }

    private static String names(Class<?>[] types) {
        List<String> names = new ArrayList<>();
        for (Class<?> type : types) {
            names.add(type.getSimpleName());
        }
        return String.join(", ", names);
    }

    private static void privateMembers(Class<?> c) {
        Set<String> publicNames = new HashSet<>();
        for (Method m : c.getMethods()) {
            publicNames.add(m.getName());
        }
        for (Method m : c.getDeclaredMethods()) {
            if (Modifier.isPrivate(m.getModifiers()) && publicNames.contains(m.getName())) {
                Due.isText("a private method", m.toString(), "none with a public one's name");
            }
        }
    }

    private static void classesInside(Class<?> c) {
        for (Class<?> inside : c.getDeclaredClasses()) {
            int bad = Modifier.PUBLIC | Modifier.PROTECTED;
            Due.is(inside + " is not shown", inside.getModifiers() & bad, 0);
            Due.is(inside + " is static", inside.getModifiers() & Modifier.STATIC, Modifier.STATIC);
        }
    }
}
