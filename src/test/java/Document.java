import java.io.IOException;
import java.io.UncheckedIOException;
import java.nio.file.Files;
import java.nio.file.Path;
import java.util.ArrayList;
import java.util.Arrays;
import java.util.LinkedHashMap;
import java.util.List;
import java.util.Map;

/**
 * The sentences of ../shared/DOC.md from its first line to the promise 31, and its public face. A test names the sentence
 * that it is about; one that the document does not have, and one that no test has named in the end, are both faults of the
 * tests. "Not promised" is left out, as no answer can break it.
 */
final class Document {
    private static final Path FILE = Path.of("../shared/DOC.md");
    private static final char NAMED = '\0';

    private static Map<String, String> texts = null;
    private static Map<String, char[]> marked = null;

    private Document() {
    }

    static void name(String section, String sentence) {
        read();
        String text = texts.get(section);
        int at = text == null ? -1 : text.indexOf(sentence);
        if (at < 0) {
            Due.tellOfTests("the document does not say under " + section + ": " + sentence);
            return;
        }
        char[] signs = marked.get(section);
        for (; at >= 0; at = text.indexOf(sentence, at + 1)) {
            Arrays.fill(signs, at, at + sentence.length(), NAMED);
        }
    }

    static void eachSentenceIsNamed() {
        read();
        for (Map.Entry<String, char[]> section : marked.entrySet()) {
            for (String left : new String(section.getValue()).split(String.valueOf(NAMED))) {
                if (!left.isBlank()) {
                    Due.tellOfTests("no test names this under " + section.getKey() + ": " + left.strip());
                }
            }
        }
    }

    /** The lines of the public face, from the class's own to the one of its last method. */
    static List<String> face() {
        List<String> all = lines();
        List<String> section = all.subList(all.indexOf("## The public face"), all.size());
        List<String> face = new ArrayList<>();
        for (String line : section.subList(section.indexOf("```java") + 1, section.indexOf("}"))) {
            face.add(line.strip());
        }
        return face;
    }

    private static void read() {
        if (texts != null) {
            return;
        }
        texts = new LinkedHashMap<>();
        marked = new LinkedHashMap<>();
        String section = "";
        for (String line : lines()) {
            if (line.startsWith("#")) {
                section = sectionOf(line);
            } else if (!section.isEmpty() && !isHeadingInside(section, line)) {
                texts.merge(section, sentencesOf(line), String::concat);
            }
        }
        for (Map.Entry<String, String> text : texts.entrySet()) {
            text.setValue(text.getValue().replaceAll("\\s+", " "));
            marked.put(text.getKey(), text.getValue().toCharArray());
        }
    }

    private static List<String> lines() {
        try {
            return Files.readAllLines(FILE);
        } catch (IOException e) {
            throw new UncheckedIOException(e);
        }
    }

    /** "Terms", "Merging", "Promise 2"; nothing for the parts that promise no answer. */
    private static String sectionOf(String line) {
        String title = line.replaceFirst("^#+ ", "");
        if (title.startsWith("Promise ")) {
            return title.substring(0, title.indexOf(':'));
        }
        return title.matches("What it is|Terms|Merging|Command text|Undo|Exceptions") ? title : "";
    }

    private static boolean isHeadingInside(String section, String line) {
        return line.startsWith("Ahead of the calls ") || section.equals("Terms") && !line.endsWith(".");
    }

    /** The line without the head of the call, the sign or number of a list, and the marks of code. */
    private static String sentencesOf(String line) {
        String text = line.replaceFirst("^`[^`]*\\)[^`]*`: ", "").replaceFirst("^(- |\\d\\. )", "");
        return text.replace("`", "") + " ";
    }
}
