import java.nio.file.Files;
import java.nio.file.Path;
import java.util.LinkedHashMap;
import java.util.Map;
import java.util.Set;
import java.util.regex.Matcher;
import java.util.regex.Pattern;

/** What DOC.md says under "What it is" and each heading from "Terms" to the last promise, and which words are tested. */
final class Document {
    /** The heading given here to the sentences behind the terms, which stand under none of their own. */
    static final String EXCEPTIONS = "EXCEPTIONS";
    static final String WHAT_IT_IS = "What it is";
    private static final Pattern PROMISE = Pattern.compile("## (Promise \\d+): .*");
    private static final Pattern TERM = Pattern.compile("[A-Z]+(, [A-Z]+)?");
    private static final Pattern SIGNATURE = Pattern.compile("`[^`]*\\([^`]*`: (.*)");

    private final Map<String, String> texts = new LinkedHashMap<>();
    private final Map<String, boolean[]> tested = new LinkedHashMap<>();

    Document(Path file) throws Exception {
        Map<String, StringBuilder> parts = new LinkedHashMap<>();
        String heading = null;
        for (String line : Files.readAllLines(file)) {
            heading = headingAt(line, heading);
            if (heading != null && !line.startsWith("## ") && !TERM.matcher(line).matches()) {
                parts.computeIfAbsent(heading, k -> new StringBuilder()).append(' ').append(plain(line));
            }
        }
        parts.forEach((k, text) -> texts.put(k, text.toString().replaceAll("\\s+", " ").trim()));
        texts.forEach((k, text) -> tested.put(k, new boolean[text.length()]));
    }

    private static String headingAt(String line, String heading) {
        Matcher promise = PROMISE.matcher(line);
        if (promise.matches()) return promise.group(1);
        if (line.equals("## " + WHAT_IT_IS)) return WHAT_IT_IS;
        if (line.startsWith("## ") || line.startsWith("The constants: ")) return null;
        if (TERM.matcher(line).matches()) return line;
        return line.startsWith("A method that throws") ? EXCEPTIONS : heading;
    }

    /** A line without its list mark, its backticks and the signature of a method. */
    private static String plain(String line) {
        Matcher signature = SIGNATURE.matcher(line);
        String text = signature.matches() ? signature.group(1) : line;
        return text.replaceFirst("^- ", "").replace("`", "");
    }

    Set<String> headings() {
        return texts.keySet();
    }

    /** Marks words as tested; returns whether they stand under the heading. */
    boolean mark(String heading, String words) {
        String text = texts.get(heading);
        if (text == null || words.isEmpty()) return false;
        boolean found = false;
        for (int i = text.indexOf(words); i >= 0; i = text.indexOf(words, i + 1)) {
            java.util.Arrays.fill(tested.get(heading), i, i + words.length(), true);
            found = true;
        }
        return found;
    }

    /** The words under a heading that no test has named, parted by bars; signs between words don't count. */
    String untested(String heading) {
        String text = texts.get(heading);
        StringBuilder left = new StringBuilder();
        boolean open = false;
        for (int i = 0; i < text.length(); i++) {
            char c = text.charAt(i);
            boolean named = tested.get(heading)[i];
            if (!named && (open || Character.isLetterOrDigit(c))) {
                if (!open && left.length() > 0) left.append(" | ");
                left.append(c);
            }
            open = !named && (open || Character.isLetterOrDigit(c));
        }
        return left.toString();
    }
}
