import java.io.IOException;
import java.lang.reflect.InvocationTargetException;
import java.lang.reflect.Method;
import java.lang.reflect.Modifier;
import java.nio.file.Files;
import java.nio.file.Path;
import java.util.List;
import java.util.regex.Matcher;
import java.util.regex.Pattern;

/** Does the calls of README.md's examples: each answers what stands behind it there; and README.md names each call. */
public final class ReadmeTest {
    private static final Path FILE = Path.of("README.md");
    private static final Pattern NEW = Pattern.compile("DraftMerge x = new DraftMerge\\(\\);");
    private static final Pattern CALL = Pattern.compile("x\\.(\\w+)\\((.*)\\); +// (throws \\w+|[^\\s:,]+).*");
    private static final Pattern EACH = Pattern.compile("for \\(char c : \"(.*)\"\\.toCharArray\\(\\)\\) \\{");
    private static final Pattern INSIDE = Pattern.compile("    x\\.append\\(c\\);|\\}");

    private static DraftMerge x = null;
    private static int calls = 0;

    public static void main(String[] args) throws IOException, IllegalAccessException {
        List<String> lines = Files.readAllLines(FILE);
        boolean isExample = false;
        for (String line : lines) {
            if (line.startsWith("```")) {
                isExample = line.equals("```java");
            } else if (isExample) {
                example(line);
            }
        }
        eachCallIsNamed(String.join("\n", lines));
        if (calls == 0) {
            Due.tellOfTests("README.md has no example");
        }
        Due.end("ReadmeTest");
    }

    private static void example(String line) throws IllegalAccessException {
        Matcher call = CALL.matcher(line);
        Matcher each = EACH.matcher(line);
        if (NEW.matcher(line).matches()) {
            x = new DraftMerge();
        } else if (call.matches()) {
            calls++;
            String want = call.group(3).equals("NONE") ? "" + DraftMerge.NONE : call.group(3);
            Due.isText("README.md: " + line, answer(call.group(1), call.group(2)), want);
        } else if (each.matches()) {
            Due.write(x, each.group(1));
        } else if (!INSIDE.matcher(line).matches()) {
            Due.tellOfTests("README.md: what is " + line);
        }
    }

    private static String answer(String name, String list) throws IllegalAccessException {
        String[] written = list.isEmpty() ? new String[0] : list.split(", ");
        Object[] arguments = new Object[written.length];
        for (int at = 0; at < written.length; at++) {
            boolean isSign = written[at].startsWith("'");
            arguments[at] = isSign ? written[at].charAt(1) : Integer.parseInt(written[at]);
        }
        for (Method m : DraftMerge.class.getMethods()) {
            if (m.getName().equals(name) && m.getParameterCount() == arguments.length) {
                return answer(m, arguments);
            }
        }
        return "no such call";
    }

    private static String answer(Method m, Object[] arguments) throws IllegalAccessException {
        try {
            return "" + m.invoke(x, arguments);
        } catch (InvocationTargetException e) {
            return "throws " + e.getCause().getClass().getSimpleName();
        }
    }

    private static void eachCallIsNamed(String page) {
        for (Method m : DraftMerge.class.getDeclaredMethods()) {
            boolean isShown = Modifier.isPublic(m.getModifiers());
            if (isShown && !Pattern.compile("`" + m.getName() + "\\(").matcher(page).find()) {
                Due.tellOfTests("README.md does not tell of " + m.getName());
            }
        }
    }
}
