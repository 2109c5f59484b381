import java.nio.file.Files;
import java.nio.file.Path;
import java.util.ArrayList;
import java.util.List;
import java.util.Map;
import java.util.Set;
import java.util.TreeMap;
import java.util.TreeSet;
import java.util.regex.Matcher;
import java.util.regex.Pattern;

/** Looks through the text of Ticksilo.java, whose path is the argument, for what LANGUAGE.md does not leave. */
public final class LanguageTest {
    private static final int LONGEST_METHOD = 60;
    private static final int MOST_CLASSES = 12;
    private static final int MOST_FIELDS = 20;
    private static final int DEEPEST_CALLS = 8;
    private static final int LEAST_METHODS = 100;
    private static final String OUTER = "Ticksilo";
    private static final String[] RULED_OUT = {
        "->", "::", "\\bcatch\\b", "\\bfinally\\b", "\\bsynchronized\\b", "\\bassert\\b", "Exact\\s*\\(", "\\bdouble\\b",
        "\\bfloat\\b", "\\bMap\\b", "\\bvar\\b", "\\bequals\\b", "\\bhashCode\\b", "\\btoString\\b", "\\bSystem\\.(?!arraycopy)",
        "\\bObject\\b", "\\bprotected\\b", "\\bLong\\.", "\\bThread\\b", "\\bgetClass\\b", "\\bstatic \\{",
        "for \\([^;)]*:"};
    private static final Set<String> LISTS = Set.of("add", "get", "set", "remove", "size", "isEmpty", "clear");
    private static int wrong = 0;

    private static void fault(String text) {
        wrong++;
        System.out.println("LanguageTest: " + text);
    }

    private static String withoutComments(String text) {
        return text.replaceAll("(?s)/\\*.*?\\*/", "").replaceAll("//[^\n]*", "").replaceAll("\"[^\"\n]*\"", "\"\"");
    }

    private static void checkWords(String code) {
        for (String word : RULED_OUT) {
            Matcher m = Pattern.compile(word).matcher(code);
            while (m.find()) fault("\"" + m.group() + "\" stands in the class");
        }
        Matcher library = Pattern.compile("\\bMath\\.(\\w+)").matcher(code);
        while (library.find()) {
            if (!Set.of("min", "max", "floorMod", "abs", "floorDiv").contains(library.group(1))) fault(library.group());
        }
        Matcher imports = Pattern.compile("import ([^;]*);").matcher(code);
        while (imports.find()) {
            if (!imports.group(1).equals("java.util.ArrayList")) fault(imports.group());
        }
        Matcher thrown = Pattern.compile("throw ([^;]*);").matcher(code);
        while (thrown.find()) {
            if (!thrown.group(1).matches("new (IllegalState|IllegalArgument|IndexOutOfBounds)Exception\\(\"\"\\)")) fault(thrown.group());
        }
        Matcher lists = Pattern.compile("\\b(seen|numbered|records|rules|found|draft|rows|selectors|silenced)\\.(\\w+)\\(").matcher(code);
        while (lists.find()) {
            if (!LISTS.contains(lists.group(2))) fault(lists.group());
        }
    }

    private static void checkClasses(String[] lines) {
        int classes = 0;
        int fields = 0;
        for (String line : lines) {
            if (line.matches("\\s*(public|private static) (final|abstract) class .*")) {
                classes++;
                fields = 0;
            }
            if (line.matches("\\s*(private |final )+(?!static)[^(]*( = .*)?;") && !line.contains("static") && ++fields > MOST_FIELDS) {
                fault("too many fields: " + line);
            }
        }
        if (classes > MOST_CLASSES) fault(classes + " classes");
    }

    /** The bodies of methods and constructors, by their class and name. */
    private static Map<String, StringBuilder> bodies(String[] lines) {
        Map<String, StringBuilder> all = new TreeMap<>();
        Pattern head = Pattern.compile("(\\s+)(?!if|for|while|switch|\\})[^=]*?(\\w+)\\([^()]*\\)( throws [^{]*)? \\{");
        String within = OUTER;
        for (int i = 0; i < lines.length; i++) {
            Matcher inner = Pattern.compile("    \\S.* class (\\w+).*").matcher(lines[i]);
            if (inner.matches()) within = inner.group(1);
            Matcher method = head.matcher(lines[i]);
            if (!method.matches()) continue;
            int begin = i;
            StringBuilder body = all.computeIfAbsent(within + "." + method.group(2), k -> new StringBuilder());
            for (i++; i < lines.length && !lines[i].equals(method.group(1) + "}"); i++) body.append(lines[i]).append('\n');
            if (i - begin > LONGEST_METHOD) fault(within + "." + method.group(2) + " is long");
        }
        return all;
    }

    /** The methods that a call can be of: of the class named ahead of a dot, of any class inside, or of the one at hand. */
    private static List<String> called(String ahead, String name, String within, Set<String> all) {
        if (ahead == null) {
            String own = within + "." + name;
            return all.contains(own) ? List.of(own) : List.of(OUTER + "." + name, name + "." + name);
        }
        if (Character.isUpperCase(ahead.charAt(0))) return List.of(ahead + "." + name);
        List<String> any = new ArrayList<>();
        for (String one : all) {
            if (one.endsWith("." + name) && !one.startsWith(OUTER + ".")) any.add(one);
        }
        return any;
    }

    /** How many calls stand open at most from a method on, itself counted. */
    private static int depth(String method, Map<String, StringBuilder> bodies, Map<String, Integer> known) {
        Integer before = known.get(method);
        if (before != null) return before;
        // What comes back to a method while that is being reckoned is a recursion, and none is needed.
        known.put(method, DEEPEST_CALLS + 1);
        int deepest = 0;
        String within = method.substring(0, method.indexOf('.'));
        Matcher call = Pattern.compile("(?:(\\w+|\\))\\.)?(\\w+)\\(").matcher(bodies.get(method));
        while (call.find()) {
            for (String one : called(call.group(1), call.group(2), within, bodies.keySet())) {
                if (bodies.containsKey(one)) deepest = Math.max(deepest, depth(one, bodies, known));
            }
        }
        known.put(method, deepest + 1);
        return deepest + 1;
    }

    private static void checkCalls(Map<String, StringBuilder> bodies) {
        Map<String, Integer> known = new TreeMap<>();
        for (String method : bodies.keySet()) {
            int deep = depth(method, bodies, known);
            if (deep > DEEPEST_CALLS) fault(method + " goes " + deep + " calls deep");
        }
        if (bodies.size() < LEAST_METHODS) fault("methods read: " + bodies.keySet());
    }

    private static void checkConstructors(String code) {
        Matcher m = Pattern.compile("\n +(?:public )?([A-Z]\\w+)\\([^)]*\\) \\{(.*?)\n    (?:    )?\\}", Pattern.DOTALL).matcher(code);
        TreeSet<String> made = new TreeSet<>();
        while (m.find()) {
            made.add(m.group(1));
            if (m.group(2).contains("throw")) fault("a throw in the constructor of " + m.group(1));
        }
        if (!made.contains("Ticksilo") || !made.contains("Pile")) fault("constructors read: " + made);
    }

    public static void main(String[] args) throws Exception {
        Path file = Path.of(args[0]);
        String text = Files.readString(file);
        for (int i = 0; i < text.length(); i++) {
            char c = text.charAt(i);
            if (c != '\n' && (c < 32 || c > 126)) fault("the sign " + (int) c);
        }
        String code = withoutComments(text);
        checkWords(code);
        checkConstructors(code);
        String[] lines = code.replaceAll("\\)\n +throws ", ") throws ").split("\n");
        checkClasses(lines);
        checkCalls(bodies(lines));
        System.out.println(wrong == 0 ? "LanguageTest: the text is as due" : "LanguageTest: " + wrong + " faults");
        if (wrong != 0) System.exit(1);
    }
}
