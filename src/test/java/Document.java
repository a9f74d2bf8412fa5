import java.io.IOException;
import java.nio.charset.StandardCharsets;
import java.nio.file.Files;
import java.nio.file.Path;
import java.util.ArrayList;
import java.util.List;
import java.util.regex.Matcher;
import java.util.regex.Pattern;

/** The document's words from how an object is used to its last promise, and which of them a test has taken. */
final class Document {
    private static final Path FILE = Path.of("../shared/DOC.md");
    /** What heads, frames or orders the words, and says nothing that could be broken. */
    private static final Pattern FRAME = Pattern.compile("## The public face ```java.*?```|## Terms|## Promise \\d+: (?:A new object|\\w+)|```text|```"
        + "|======== \\d|Ahead of the calls [^.]*?\\.|`[^`]*`:");

    private static final Pattern METHOD = Pattern.compile("^ *public (\\w+ \\w+\\([^)]*\\));$", Pattern.MULTILINE);
    private static final Pattern CONSTANT = Pattern.compile("\\b([A-Z]+) = (-?\\d+)\\b");

    private final String words;
    private final boolean[] taken;

    private static String all() throws IOException {
        return Files.readString(FILE, StandardCharsets.UTF_8);
    }

    /** The public face, as it stands there. */
    private static String face() throws IOException {
        String all = all();
        int from = Math.max(0, all.indexOf("```java"));
        return all.substring(from, all.indexOf("```", from + 3));
    }

    /** The methods of the face with the types and names of what they take: int tell(int m, long low, long high). */
    static List<String> faceMethods() throws IOException {
        List<String> methods = new ArrayList<>();
        METHOD.matcher(face()).results().forEach(found -> methods.add(found.group(1)));
        return methods;
    }

    /** The constants of the face, each as BAD = -1. */
    static List<String> faceConstants() throws IOException {
        List<String> constants = new ArrayList<>();
        CONSTANT.matcher(face()).results().forEach(found -> constants.add(found.group()));
        return constants;
    }

    Document() throws IOException {
        String all = all();
        int from = Math.max(0, all.indexOf("An object is used"));
        int to = all.indexOf("## Not promised");
        words = all.substring(from, to < from ? all.length() : to).replaceAll("\\s+", " ");
        taken = new boolean[words.length()];
        Matcher frame = FRAME.matcher(words);
        while (frame.find()) {
            mark(frame.start(), frame.end());
        }
    }

    /** Whether the sentence stands in the document; wherever it does, it is taken. */
    boolean take(String sentence) {
        int place = words.indexOf(sentence);
        boolean stands = place >= 0;
        while (place >= 0) {
            mark(place, place + sentence.length());
            place = words.indexOf(sentence, place + 1);
        }
        return stands;
    }

    private void mark(int from, int to) {
        for (int i = from; i < to; i++) {
            taken[i] = true;
        }
    }

    /** The words that no test has taken, as they stand. */
    String left() {
        StringBuilder out = new StringBuilder();
        for (int i = 0; i < taken.length; i++) {
            out.append(taken[i] ? ' ' : words.charAt(i));
        }
        return out.toString().replaceAll("\\s+", " ").trim();
    }
}
