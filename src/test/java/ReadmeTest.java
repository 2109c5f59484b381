import java.lang.reflect.InvocationTargetException;
import java.lang.reflect.Method;
import java.nio.file.Files;
import java.nio.file.Path;
import java.util.List;
import java.util.TreeSet;
import java.util.regex.Matcher;
import java.util.regex.Pattern;

/** Makes the calls that stand in README.md, whose path is the argument, and compares their answers with those there. */
public final class ReadmeTest {
    private static final Pattern CALL = Pattern.compile("x\\.(\\w+)\\((.*)\\); +// ([\\w-]+)(: .*)?");
    private static final int LEAST_CALLS = 30;

    private static int wrong = 0;
    private static int calls = 0;

    private static void fault(String text) {
        wrong++;
        System.out.println("ReadmeTest: " + text);
    }

    private static Object argument(String text) throws Exception {
        if (text.equals("true") || text.equals("false")) return Boolean.valueOf(text);
        if (text.startsWith("Ticksilo.")) return Ticksilo.class.getField(text.substring(9)).get(null);
        return Integer.valueOf(text);
    }

    private static Method methodOf(String name) {
        for (Method method : Ticksilo.class.getMethods()) {
            if (method.getDeclaringClass() == Ticksilo.class && method.getName().equals(name)) return method;
        }
        throw new IllegalArgumentException("no method " + name);
    }

    private static String answer(Ticksilo x, String name, String arguments) throws Exception {
        String[] texts = arguments.isEmpty() ? new String[0] : arguments.split(", ");
        Object[] all = new Object[texts.length];
        for (int i = 0; i < texts.length; i++) all[i] = argument(texts[i]);
        try {
            return "" + methodOf(name).invoke(x, all);
        } catch (InvocationTargetException e) {
            return e.getCause().getClass().getSimpleName();
        }
    }

    /** A constant that is named behind an answer has to be that answer. */
    private static void checkName(String line, String answer, String text) throws Exception {
        Matcher name = Pattern.compile(": ([A-Z]{2,})\\b.*").matcher(text == null ? "" : text);
        if (name.matches() && !answer.equals("" + Ticksilo.class.getField(name.group(1)).get(null))) {
            fault(line + " names " + name.group(1));
        }
    }

    private static void check(List<String> lines) throws Exception {
        Ticksilo x = new Ticksilo();
        boolean within = false;
        TreeSet<String> made = new TreeSet<>();
        for (String line : lines) {
            if (line.startsWith("```")) {
                within = line.equals("```java");
                continue;
            }
            if (!within || line.equals("Ticksilo x = new Ticksilo();")) continue;
            Matcher call = CALL.matcher(line);
            if (!call.matches()) {
                fault("no call with an answer: " + line);
                continue;
            }
            calls++;
            made.add(call.group(1));
            String got = answer(x, call.group(1), call.group(2));
            if (!got.equals(call.group(3))) fault(line + " answered " + got);
            checkName(line, call.group(3), call.group(4));
        }
        if (calls < LEAST_CALLS) fault("just " + calls + " calls were read: " + made);
    }

    public static void main(String[] args) throws Exception {
        check(Files.readAllLines(Path.of(args[0])));
        System.out.println("ReadmeTest: " + calls + " calls, " + (wrong == 0 ? "all answers are as told" : wrong + " faults"));
        if (wrong != 0) System.exit(1);
    }
}
