import java.util.function.IntToLongFunction;
import java.util.function.LongSupplier;

/** What tests by hand-reckoned answers ask with; it counts the answers that are not due. */
abstract class Due {
    static final int STALE = Ticksilo.STALE;
    static final int NONE = Ticksilo.NONE;
    static final int GOOD = Ticksilo.GOOD;
    static final int FULL = Ticksilo.FULL;
    static final int DOUBLED = Ticksilo.DOUBLED;
    static final int CONFLICT = Ticksilo.CONFLICT;
    static final int LATE = Ticksilo.LATE;
    static final int OVER = Ticksilo.OVER;
    static final int NUMBER = Ticksilo.NUMBER;
    static final int AT = Ticksilo.AT;
    static final int COUNT = Ticksilo.COUNT;
    static final int TOTAL = Ticksilo.TOTAL;
    static final int LEAST = Ticksilo.LEAST;
    static final int GREATEST = Ticksilo.GREATEST;
    static final int SMOOTH = Ticksilo.SMOOTH;
    static final int RATE = Ticksilo.RATE;
    static final int SUM = Ticksilo.SUM;
    static final int MOST = Ticksilo.MOST;
    static final int PLUS = Ticksilo.PLUS;
    static final int MINUS = Ticksilo.MINUS;
    static final int TIMES = Ticksilo.TIMES;
    static final int PER = Ticksilo.PER;
    static final int ABOVE = Ticksilo.ABOVE;
    static final int QUANTILE = Ticksilo.QUANTILE;
    static final int WAITING = Ticksilo.WAITING;
    static final int FIRING = Ticksilo.FIRING;
    static final int ALL = 127;
    static final int LAST = 100000;
    static final long BOUND = 100000000000000L;
    static final int[] FAR = {Integer.MIN_VALUE, Integer.MAX_VALUE};

    static int wrong = 0;
    /** What is tested just now, told with each wrong answer. */
    static String tested = "";

    private static void fault(String text) {
        wrong++;
        String line = "";
        for (StackTraceElement at : new Throwable().getStackTrace()) {
            if (!at.getClassName().equals("Due")) {
                line = at.getFileName() + ":" + at.getLineNumber();
                break;
            }
        }
        System.out.println(tested + " (" + line + "): " + text);
    }

    static void due(long got, long want) {
        if (got != want) fault("answered " + got + ", due is " + want);
    }

    static void due(boolean got, boolean want) {
        if (got != want) fault("answered " + got + ", due is " + want);
    }

    static void due(String got, String want) {
        if (!got.equals(want)) fault("answered \"" + got + "\", due is \"" + want + "\"");
    }

    private static void throwsIt(Class<? extends RuntimeException> kind, LongSupplier call) {
        String got = thrownBy(call);
        if (!got.equals(kind.getName())) fault("answered " + got + ", due is " + kind);
    }

    /** The name of what a call throws, or its answer. What the class does not throw itself is told as the machine's. */
    static String thrownBy(LongSupplier call) {
        try {
            return "" + call.getAsLong();
        } catch (RuntimeException e) {
            StackTraceElement[] at = e.getStackTrace();
            boolean own = at.length > 0 && at[0].getClassName().startsWith("Ticksilo");
            return (own ? "" : "the machine's ") + e.getClass().getName();
        }
    }

    static void index(LongSupplier call) {
        throwsIt(IndexOutOfBoundsException.class, call);
    }

    static void argument(LongSupplier call) {
        throwsIt(IllegalArgumentException.class, call);
    }

    static void state(LongSupplier call) {
        throwsIt(IllegalStateException.class, call);
    }

    /** Numbers just and far outside of a range are refused as arguments. */
    static void argumentsOutside(int least, int greatest, IntToLongFunction call) {
        for (int number : outside(least, greatest)) argument(() -> call.applyAsLong(number));
    }

    /** Numbers just and far outside of a range name nothing that there is. */
    static void indexesOutside(int least, int greatest, IntToLongFunction call) {
        for (int number : outside(least, greatest)) index(() -> call.applyAsLong(number));
    }

    private static int[] outside(int least, int greatest) {
        return new int[] {least - 1, greatest + 1, Integer.MIN_VALUE, Integer.MAX_VALUE};
    }

    /** A new one at a time. The times above 51200 take more than the 512 calls that are promised. */
    static Ticksilo at(int time) {
        Ticksilo x = new Ticksilo();
        passOn(x, time);
        return x;
    }

    static void passOn(Ticksilo x, int times) {
        for (int left = times; left > 0; left -= 100) x.pass(Math.min(100, left));
    }

    /** A new one at a time, whose series 000 has samples of the times and values told in turn. */
    static Ticksilo with(int now, int... timesAndValues) {
        Ticksilo x = at(now);
        for (int i = 0; i < timesAndValues.length; i += 2) x.write(0, 0, 0, timesAndValues[i], timesAndValues[i + 1]);
        return x;
    }

    /** A new one at the time 0 with a sample of each series; labels and values are told in turn. */
    static Ticksilo of(int... labelsAndValues) {
        Ticksilo x = new Ticksilo();
        for (int i = 0; i < labelsAndValues.length; i += 2) put(x, labelsAndValues[i], 0, labelsAndValues[i + 1]);
        return x;
    }

    static int put(Ticksilo x, int labels, int time, int value) {
        return x.write(labels / 100, labels / 10 % 10, labels % 10, time, value);
    }

    /** Puts words, three numbers each, into an emptied draft. */
    static void draft(Ticksilo x, int... words) {
        x.clear();
        for (int i = 0; i < words.length; i += 3) x.word(words[i], words[i + 1], words[i + 2]);
    }

    /** What words tell at a time: "fails", or labels and values such as "000=1000 661=-5". */
    static String told(Ticksilo x, int time, int... words) {
        draft(x, words);
        int many = x.ask(time);
        return many == Ticksilo.NONE ? "fails" : answers(x, many);
    }

    static String answers(Ticksilo x, int many) {
        StringBuilder text = new StringBuilder();
        for (int i = 0; i < many; i++) {
            text.append(i == 0 ? "" : " ").append(String.format("%03d", x.labelsOf(i))).append('=').append(x.value(i));
        }
        return text.toString();
    }

    static int[] join(int[]... parts) {
        int size = 0;
        for (int[] part : parts) size += part.length;
        int[] all = new int[size];
        int place = 0;
        for (int[] part : parts) {
            System.arraycopy(part, 0, all, place, part.length);
            place += part.length;
        }
        return all;
    }
}
