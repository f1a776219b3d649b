import java.io.IOException;
import java.nio.file.Files;
import java.nio.file.Path;
import java.util.ArrayDeque;
import java.util.ArrayList;
import java.util.Deque;
import java.util.List;
import java.util.regex.Matcher;
import java.util.regex.Pattern;

/** What can be read of the rules of ../shared/LANGUAGE.md in the text of the class; LanguageLimits asks the compiled one. */
public final class LanguageTest {
    private static final Path FILE = Path.of("src/main/java/DraftMerge.java");
    private static final int METHOD_LINES = 60;
    private static final String EXCEPTION = "(IllegalState|IllegalArgument|IndexOutOfBounds|Arithmetic|UnsupportedOperation"
            + "|NoSuchElement|Runtime)Exception";

    /** What the rules rule out by name or sign: a rule, and what must not be found. */
    private static final String[][] RULED_OUT = {
        {"1", "^package "}, {"2", "->|::"}, {"3", "\\b(Object|var|Map|Set|Optional|Stream|BigInteger|Character)\\b"},
        {"3", "\\bMath\\.(?!(max|min|abs|floorDiv|floorMod)\\b)"}, {"3", "\\bNaN\\b"},
        {"4", "Exact\\s*\\("}, {"4", "\\bString\\.(format|valueOf|join)\\b"}, {"4", "\\.(split|trim|strip|replace)\\("},
        {"4", "\\bArrays\\.(?!(copyOf|copyOfRange|fill)\\()"}, {"4", "\\bSystem\\.(?!arraycopy\\b)"},
        {"5", "\\bstatic\\s*\\{"}, {"6", "\\b(finally|synchronized|assert|getMessage|printStackTrace)\\b"},
        {"6", "\\btry\\s*\\("}, {"6", "\\bextends\\s+\\w*(Exception|Error|Throwable)\\b"},
        {"6", "\\b(boolean equals|int hashCode|String toString)\\("}, {"6", "\\bcatch\\s*\\((?!" + EXCEPTION + "\\b)"},
        {"6", "\\bthrow\\b(?! new " + EXCEPTION + "\\((\"\")?\\);)"}, {"10", "\"\"\\s*\\+|\\+\\s*\"\""},
        {"13", "\\b(Thread|Random|Runtime|File|Path|Clock|Instant|native|volatile|transient)\\b"},
    };

    public static void main(String[] args) throws IOException {
        String text = Files.readString(FILE);
        plainSigns(text);
        String code = withoutCommentsAndTexts(text);
        imports(code);
        for (String[] ruled : RULED_OUT) {
            Matcher found = Pattern.compile(ruled[1], Pattern.MULTILINE).matcher(code);
            while (found.find()) {
                Due.tellOfTests("rule " + ruled[0] + ", line " + line(code, found.start()) + ": " + found.group());
            }
        }
        methodsAreShort(code);
        indexesAreLookedAt(code);
        LanguageLimits.check();
        Due.end("LanguageTest");
    }

    private static int line(String code, int at) {
        return (int) code.substring(0, at).chars().filter(sign -> sign == '\n').count() + 1;
    }

    private static void plainSigns(String text) {
        for (int at = 0; at < text.length(); at++) {
            if (text.charAt(at) < 1 || text.charAt(at) > 127) {
                Due.tellOfTests("rule 4, line " + line(text, at) + ": a sign beyond 127");
            }
        }
    }

    /** Comments and the insides of texts and characters are taken out; the lines stay where they are. */
    private static String withoutCommentsAndTexts(String text) {
        Pattern part = Pattern.compile("/\\*.*?\\*/|//[^\n]*|\"(\\\\.|[^\"\\\\])*\"|'(\\\\.|[^'\\\\])'", Pattern.DOTALL);
        return part.matcher(text).replaceAll(found -> {
            String left = found.group().startsWith("/") ? "" : found.group().startsWith("\"") ? "\"\"" : "' '";
            return left + "\n".repeat(line(found.group(), found.group().length()) - 1);
        });
    }

    private static void imports(String code) {
        Matcher found = Pattern.compile("^import (.*);", Pattern.MULTILINE).matcher(code);
        while (found.find()) {
            if (!found.group(1).matches("java\\.util\\.(Arrays|ArrayList|List|Iterator|NoSuchElementException)")) {
                Due.tellOfTests("rule 4: " + found.group());
            }
        }
    }

    private static void methodsAreShort(String code) {
        Deque<Boolean> classes = new ArrayDeque<>();
        Deque<Integer> begins = new ArrayDeque<>();
        int header = 0;
        for (int at = 0; at < code.length(); at++) {
            char sign = code.charAt(at);
            if (sign == '{') {
                classes.push(code.substring(header, at).matches("(?s).*\\b(class|enum|interface|record) .*"));
                begins.push(line(code, at));
            } else if (sign == '}') {
                int lines = line(code, at) - begins.pop() + 1;
                if (!classes.pop() && lines > METHOD_LINES) {
                    Due.tellOfTests("rule 11, line " + line(code, at) + ": ends a block of " + lines + " lines");
                }
            }
            header = sign == '{' || sign == '}' || sign == ';' ? at + 1 : header;
        }
    }

    /** Rule 7: what stands in brackets is a length, or an index that this line or the one before it looks at. */
    private static void indexesAreLookedAt(String code) {
        List<String> lines = new ArrayList<>(List.of(code.split("\n")));
        Pattern index = Pattern.compile("(?<!new )\\b(\\w+)\\[(\\w[^\\]]*)\\]");
        for (int at = 1; at < lines.size(); at++) {
            Matcher found = index.matcher(lines.get(at));
            while (found.find()) {
                String looks = found.group(2) + " < " + found.group(1) + ".length";
                if (!(lines.get(at - 1) + lines.get(at)).contains(looks)) {
                    Due.tellOfTests("rule 7, line " + (at + 1) + ": " + found.group() + " without " + looks);
                }
            }
        }
    }
}
