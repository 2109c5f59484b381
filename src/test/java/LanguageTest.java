import java.nio.file.Files;
import java.nio.file.Path;
import java.util.List;
import java.util.Set;
import java.util.TreeSet;
import java.util.regex.Matcher;
import java.util.regex.Pattern;

/** Looks through the text of Ticksilo.java, whose path is the argument, for what LANGUAGE.md does not leave. */
public final class LanguageTest {
    private static final int LONGEST_METHOD = 60;
    private static final int MOST_CLASSES = 12;
    private static final int MOST_FIELDS = 20;
    private static final String[] RULED_OUT = {
        "->", "::", "\\bcatch\\b", "\\bfinally\\b", "\\bsynchronized\\b", "\\bassert\\b", "Exact\\s*\\(", "\\bdouble\\b",
        "\\bfloat\\b", "\\bMap\\b", "\\bvar\\b", "\\bequals\\b", "\\bhashCode\\b", "\\btoString\\b", "\\bSystem\\.(?!arraycopy)",
        "\\bObject\\b", "\\bprotected\\b", "\\bLong\\.", "\\bThread\\b", "\\bgetClass\\b", "\\bstatic \\{",
        "for \\([^;)]*:"};
    private static final Set<String> LISTS = Set.of("add", "get", "set", "remove", "size", "isEmpty", "clear");
    private static int wrong = 0;

    private static void fault(String text) {
        wrong++;
        System.out.println("LanguageTest: " + text);
    }

    private static String withoutComments(String text) {
        return text.replaceAll("(?s)/\\*.*?\\*/", "").replaceAll("//[^\n]*", "").replaceAll("\"[^\"\n]*\"", "\"\"");
    }

    private static void checkWords(String code) {
        for (String word : RULED_OUT) {
            Matcher m = Pattern.compile(word).matcher(code);
            while (m.find()) fault("\"" + m.group() + "\" stands in the class");
        }
        Matcher library = Pattern.compile("\\bMath\\.(\\w+)").matcher(code);
        while (library.find()) {
            if (!Set.of("min", "max", "floorMod", "abs", "floorDiv").contains(library.group(1))) fault(library.group());
        }
        Matcher imports = Pattern.compile("import ([^;]*);").matcher(code);
        while (imports.find()) {
            if (!imports.group(1).equals("java.util.ArrayList")) fault(imports.group());
        }
        Matcher thrown = Pattern.compile("throw ([^;]*);").matcher(code);
        while (thrown.find()) {
            if (!thrown.group(1).matches("new (IllegalState|IllegalArgument|IndexOutOfBounds)Exception\\(\"\"\\)")) fault(thrown.group());
        }
        Matcher lists = Pattern.compile("\\b(seen|numbered|records|rules|found|draft|rows|selectors|silenced)\\.(\\w+)\\(").matcher(code);
        while (lists.find()) {
            if (!LISTS.contains(lists.group(2))) fault(lists.group());
        }
    }

    private static void checkSizes(List<String> lines) {
        int classes = 0;
        int fields = 0;
        int begin = -1;
        String indent = "";
        for (int i = 0; i < lines.size(); i++) {
            String line = lines.get(i);
            if (line.matches("\\s*(public|private static) (final|abstract) class .*")) {
                classes++;
                fields = 0;
            }
            if (line.matches("\\s*(private |final )+(?!static)[^(]*( = .*)?;") && !line.contains("static") && ++fields > MOST_FIELDS) {
                fault("too many fields at line " + (i + 1));
            }
            Matcher method = Pattern.compile("(\\s+)[^=]*\\)( throws [^{]*)? \\{").matcher(line);
            if (begin < 0 && method.matches() && !line.matches("\\s*(if|for|while|switch|\\}).*")) {
                begin = i;
                indent = method.group(1);
            }
            if (begin >= 0 && line.equals(indent + "}")) {
                if (i - begin > LONGEST_METHOD) fault("a long method at line " + (begin + 1));
                begin = -1;
            }
        }
        if (classes > MOST_CLASSES) fault(classes + " classes");
    }

    private static void checkConstructors(String code) {
        Matcher m = Pattern.compile("\n +(?:public )?([A-Z]\\w+)\\([^)]*\\) \\{(.*?)\n    (?:    )?\\}", Pattern.DOTALL).matcher(code);
        TreeSet<String> made = new TreeSet<>();
        while (m.find()) {
            made.add(m.group(1));
            if (m.group(2).contains("throw")) fault("a throw in the constructor of " + m.group(1));
        }
        if (!made.contains("Ticksilo") || !made.contains("Pile")) fault("constructors read: " + made);
    }

    public static void main(String[] args) throws Exception {
        Path file = Path.of(args[0]);
        String text = Files.readString(file);
        for (int i = 0; i < text.length(); i++) {
            char c = text.charAt(i);
            if (c != '\n' && (c < 32 || c > 126)) fault("the sign " + (int) c);
        }
        String code = withoutComments(text);
        checkWords(code);
        checkConstructors(code);
        checkSizes(List.of(code.split("\n")));
        System.out.println(wrong == 0 ? "LanguageTest: the text is as due" : "LanguageTest: " + wrong + " faults");
        if (wrong != 0) System.exit(1);
    }
}
