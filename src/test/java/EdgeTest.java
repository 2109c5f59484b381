import java.lang.reflect.InvocationTargetException;
import java.lang.reflect.Method;
import java.nio.file.Path;
import java.util.Arrays;
import java.util.Comparator;

/**
 * Runs each test of a boundary case, and sees that the words which it names stand in DOC.md, whose path is the
 * argument, and that no words there are left without a test, but for those that name no boundary.
 */
public final class EdgeTest {
    private static final Class<?>[] TESTS = {
        SamplesEdges.class, BlocksEdges.class, SelectEdges.class, WindowEdges.class, JoinEdges.class,
        RulesEdges.class, AlertEdges.class, CopyEdges.class, RefusedEdges.class};

    /** Headings, each with words under it that name no boundary; PromiseTest has tests of them. */
    private static final String[][] PLAIN = {
        {"What it is",
            "A silo of series: readings with labels, that come late, twice and out of order, packed into blocks by"
                + " differences of differences and by bits that changed, marks of stale ones, erasing, retention, a log"
                + " that a crash tears off, a language of selectors, rates over resets, windows, sums by labels, joins"
                + " and quantiles, thinned levels, rules that record in order, alerts that wait, fire, are kept firing,"
                + " silenced, inhibited and told once, fair limits, and a copy that falls behind and is mended.",
            "what later calls answer is free"},
        {"Promise 2", "Writes a sample."},
        {"Promise 6", "Erases."},
        {"Promise 7", "Lets time go on."},
        {"Promise 11", "Lets it crash."},
        {"Promise 24", "Tells something of an entry of an alert.", "Returns the number."},
        {"Promise 26", "Returns the number."},
    };

    private static int faults = 0;

    private static void fault(String text) {
        faults++;
        System.out.println("EdgeTest: " + text);
    }

    private static int runAll(Class<?> tests, Document document) throws IllegalAccessException {
        Method[] methods = tests.getDeclaredMethods();
        Arrays.sort(methods, Comparator.comparing(Method::getName));
        int count = 0;
        for (Method method : methods) {
            Sentence sentence = method.getAnnotation(Sentence.class);
            if (sentence == null) continue;
            count++;
            if (!document.mark(sentence.under(), sentence.says())) {
                fault(method.getName() + ": under " + sentence.under() + " stands no \"" + sentence.says() + "\"");
            }
            Due.tested = sentence.under() + ", \"" + sentence.says() + "\", " + method.getName();
            runOne(method);
        }
        return count;
    }

    private static void runOne(Method method) throws IllegalAccessException {
        try {
            method.invoke(null);
        } catch (InvocationTargetException e) {
            fault(Due.tested + " threw");
            e.getCause().printStackTrace(System.out);
        }
    }

    public static void main(String[] args) throws Exception {
        Document document = new Document(Path.of(args[0]));
        int count = 0;
        for (Class<?> tests : TESTS) count += runAll(tests, document);
        for (String[] plain : PLAIN) {
            for (int i = 1; i < plain.length; i++) {
                if (!document.mark(plain[0], plain[i])) fault("under " + plain[0] + " stands no \"" + plain[i] + "\"");
            }
        }
        if (document.headings().size() != 38) fault("the headings read are " + document.headings());
        for (String heading : document.headings()) {
            String left = document.untested(heading);
            if (!left.isEmpty()) fault("no test under " + heading + " of: " + left);
        }
        faults += Due.wrong;
        System.out.println("EdgeTest: " + count + " tests, " + (faults == 0 ? "all answers are as due" : faults + " faults"));
        if (faults != 0) System.exit(1);
    }
}
