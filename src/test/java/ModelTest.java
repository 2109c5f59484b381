import java.util.Random;
import java.util.function.LongSupplier;

/** Compares Ticksilo with the plain model by runs of 512 calls that a seed picks. */
public final class ModelTest {
    private static final int CALLS = 512;
    private static int wrong = 0;
    private static final int[] thrown = new int[31];
    private static final int[] answered = new int[31];
    private static final int[] verdicts = new int[6];
    private static final int[] sizes = new int[14];

    private final Random random;
    private final Ticksilo x = new Ticksilo();
    private final Model m = new Model();
    private final StringBuilder told = new StringBuilder();
    private final int[] labels = new int[3];
    private final int values;
    private final int far;
    private final int style;
    private int now = 0;
    private int calls = 0;

    private ModelTest(long seed) {
        random = new Random(seed);
        style = (int) (seed % 5);
        for (int i = 0; i < 3; i++) {
            labels[i] = random.nextInt(4) == 0 ? 1 + random.nextInt(6) : 1 + random.nextInt(2);
        }
        values = new int[] {5, 50, 1000, 1000000}[random.nextInt(4)];
        far = new int[] {5, 15, 60, 100}[random.nextInt(4)];
    }

    private static long answer(LongSupplier call) {
        try {
            return call.getAsLong();
        } catch (RuntimeException e) {
            // What the machine or its library throws is never due.
            StackTraceElement[] at = e.getStackTrace();
            String thrower = at.length > 0 ? at[0].getClassName() : "";
            if (!thrower.startsWith("Ticksilo") && !thrower.startsWith("Model")) return Long.MIN_VALUE;
            if (e.getClass() == IndexOutOfBoundsException.class) return Long.MAX_VALUE;
            if (e.getClass() == IllegalArgumentException.class) return Long.MAX_VALUE - 1;
            return e.getClass() == IllegalStateException.class ? Long.MAX_VALUE - 2 : Long.MIN_VALUE;
        }
    }

    private boolean same(int number, String call, LongSupplier mine, LongSupplier due) {
        if (calls++ >= CALLS) return false;
        long got = answer(mine);
        long want = answer(due);
        if (number == 0 && want >= 0 && want < 6) verdicts[(int) want]++;
        if (number == 15 && want >= -1 && want < 13) sizes[(int) want + 1]++;
        told.append(call).append(" = ").append(got).append('\n');
        if (want >= Long.MAX_VALUE - 2) thrown[number]++;
        else answered[number]++;
        if (got != want) {
            System.out.println(told + "due is " + want);
            wrong++;
        }
        return got == want;
    }

    private int upTo(int bound) {
        return random.nextInt(bound + 1);
    }

    /** Mostly a number of the range, now and then one just outside or far outside. */
    private int near(int least, int greatest) {
        int pick = random.nextInt(61);
        if (pick == 60) return random.nextBoolean() ? Integer.MIN_VALUE : Integer.MAX_VALUE;
        if (pick == 0) return least - 1;
        if (pick == 1) return greatest + 1;
        if (pick == 2) return least;
        if (pick == 3) return greatest;
        return least + random.nextInt(greatest - least + 1);
    }

    private int label(int which) {
        int pick = random.nextInt(160);
        return pick == 0 ? 7 : pick == 1 ? -1 : pick < 12 ? 6 : random.nextInt(labels[which]);
    }

    private int set() {
        int pick = random.nextInt(40);
        return pick == 0 ? 128 : pick == 1 ? -1 : pick < 15 ? 127 : random.nextInt(128);
    }

    private int window() {
        int pick = random.nextInt(5);
        return pick == 0 ? near(1, 1000) : pick == 1 ? 10 * (1 + random.nextInt(5)) : 1 + random.nextInt(120);
    }

    private int value() {
        int pick = random.nextInt(60);
        if (pick == 0) return 1000001;
        if (pick == 1) return -1000001;
        if (pick < 6) return Integer.MIN_VALUE;
        if (pick < 9) return 1000000;
        return random.nextInt(4) == 0 ? -random.nextInt(values) : random.nextInt(values);
    }

    private boolean write() {
        int a = label(0);
        int b = label(1);
        int c = label(2);
        int pick = random.nextInt(20);
        int t = pick == 0 ? near(0, now) : pick == 1 ? now + 1 : now - random.nextInt(Math.min(now, 130) + 1);
        int v = value();
        return same(0, "write(" + a + ", " + b + ", " + c + ", " + t + ", " + v + ")",
            () -> x.write(a, b, c, t, v), () -> m.write(a, b, c, t, v));
    }

    private boolean pass() {
        int n = random.nextInt(30) == 0 ? near(1, 100) : 1 + random.nextInt(far);
        boolean fine = same(5, "pass(" + n + ")", () -> x.pass(n), () -> m.pass(n));
        if (n >= 1 && n <= 100) now += n;
        return fine;
    }

    private boolean word() {
        int what = near(0, 15);
        if (random.nextInt(3) == 0) what = 1 + random.nextInt(7);
        int one = what == 0 ? (random.nextBoolean() ? near(-1000000, 1000000) : random.nextInt(9000) - 1000)
            : what <= 7 ? near(0, 3) : what <= 14 ? near(0, 7) : near(0, 1000);
        int two = what == 1 && random.nextBoolean() ? 0 : window();
        int w = what;
        return same(13, "word(" + w + ", " + one + ", " + two + ")", () -> x.word(w, one, two), () -> m.word(w, one, two));
    }

    private boolean ask() {
        int t = random.nextInt(4) == 0 ? near(0, 100000) : Math.max(0, now - 20 + random.nextInt(60));
        if (!same(15, "ask(" + t + ")", () -> x.ask(t), () -> m.ask(t))) return false;
        int begin = random.nextInt(14) - 1;
        for (int i = begin; i < begin + 3; i++) {
            int e = i;
            if (!same(16, "value(" + e + ")", () -> x.value(e), () -> m.value(e))) return false;
            if (!same(17, "labelsOf(" + e + ")", () -> x.labelsOf(e), () -> m.labelsOf(e))) return false;
        }
        return true;
    }

    private boolean put(int what, int one, int two) {
        return same(13, "word(" + what + ", " + one + ", " + two + ")",
            () -> x.word(what, one, two), () -> m.word(what, one, two));
    }

    /** Words that leave one result, up to a depth of parts. */
    private boolean grow(int depth) {
        int pick = random.nextInt(depth == 0 ? 4 : 10);
        if (pick == 0) {
            return put(0, random.nextInt(3) == 0 ? near(-1000000, 1000000) : random.nextInt(40) * 1000 - 5000, 0);
        }
        if (pick < 4) {
            int what = random.nextInt(3) == 0 ? 1 : 1 + random.nextInt(7);
            return put(what, random.nextInt(4), what == 1 && random.nextBoolean() ? 0 : window());
        }
        if (pick < 6) {
            return grow(depth - 1) && put(8 + random.nextInt(2), random.nextInt(8), 0);
        }
        if (pick == 6) {
            return grow(depth - 1) && put(15, random.nextInt(4) == 0 ? near(0, 1000) : 100 * random.nextInt(11), 0);
        }
        return grow(depth - 1) && grow(depth - 1)
            && put(10 + random.nextInt(5), random.nextInt(3) == 0 ? random.nextInt(8) : 7, 0);
    }

    private boolean expression() {
        if (!same(14, "clear()", x::clear, m::clear) || !grow(1 + random.nextInt(3))) return false;
        return ask() && (random.nextInt(3) != 0 || ask());
    }

    private boolean rules() {
        int a = near(0, 5);
        if (random.nextInt(2) == 0 && !expression()) return false;
        switch (random.nextInt(4)) {
            case 0:
                return same(18, "record(" + a + ")", () -> x.record(a), () -> m.record(a));
            case 1: {
                int w = random.nextInt(30) == 0 ? near(0, 1000) : 5 * random.nextInt(6);
                int k = random.nextInt(30) == 0 ? near(0, 1000) : 5 * random.nextInt(8);
                return same(19, "alert(" + w + ", " + k + ")", () -> x.alert(w, k), () -> m.alert(w, k));
            }
            case 2: {
                int h = near(0, 7);
                int o = random.nextInt(4) == 0 ? -1 : near(0, 7);
                return same(20, "inhibit(" + h + ", " + o + ")", () -> x.inhibit(h, o), () -> m.inhibit(h, o));
            }
            default: {
                if (random.nextInt(4) != 0) return true;
                int s = near(0, 3);
                int u = random.nextInt(3) == 0 ? near(0, 100000) : now + random.nextInt(100);
                return same(21, "silence(" + s + ", " + u + ")", () -> x.silence(s, u), () -> m.silence(s, u));
            }
        }
    }

    private boolean look() {
        int a = random.nextInt(3) == 0 ? near(0, 7) : random.nextInt(3);
        int e = random.nextInt(8) == 0 ? near(0, 12) : random.nextInt(3);
        int w = near(0, 3);
        int n = random.nextInt(65);
        boolean f = random.nextBoolean();
        return same(22, "entries(" + a + ", " + f + ")", () -> x.entries(a, f), () -> m.entries(a, f))
            && same(23, "entry(" + a + ", " + e + ", " + w + ")", () -> x.entry(a, e, w), () -> m.entry(a, e, w))
            && same(24, "notices()", x::notices, m::notices)
            && same(25, "notice(" + n + ", " + w + ")", () -> x.notice(n, w), () -> m.notice(n, w));
    }

    private boolean blocks() {
        int s = near(0, 11);
        int h = random.nextInt(10) == 0 ? near(0, 1000) : Math.max(0, now / 100 - random.nextInt(3));
        int n = random.nextInt(10) == 0 ? near(0, 1000) : random.nextInt(6);
        int r = random.nextInt(4) == 0 ? near(1, 100000) : 20 + random.nextInt(300);
        switch (random.nextInt(6)) {
            case 0:
                return same(7, "retain(" + r + ")", () -> x.retain(r), () -> m.retain(r));
            case 1:
                return same(8, "flush()", x::flush, m::flush);
            case 2:
                return same(9, "log()", x::log, m::log);
            case 3:
                return same(10, "crash(" + n + ")", () -> x.crash(n), () -> m.crash(n));
            default:
                return same(11, "bits(" + s + ", " + h + ")", () -> x.bits(s, h), () -> m.bits(s, h));
        }
    }

    private boolean copy() {
        boolean d = random.nextBoolean();
        int n = random.nextInt(5) == 0 ? near(1, 1000) : 1 + random.nextInt(5);
        switch (random.nextInt(3)) {
            case 0:
                return same(28, "down(" + d + ")", () -> x.down(d) ? 1 : 0, () -> m.down(d) ? 1 : 0);
            case 1:
                return same(29, "behind()", x::behind, m::behind);
            default:
                return same(30, "mend(" + n + ")", () -> x.mend(n), () -> m.mend(n));
        }
    }

    private boolean levels() {
        int s = near(0, 11);
        int l = random.nextInt(30) == 0 ? 50 : random.nextBoolean() ? 10 : 100;
        int p = random.nextInt(10) == 0 ? near(0, 10000) : Math.max(0, now / l - random.nextInt(6));
        int w = near(0, 3);
        int t = random.nextInt(3) == 0 ? near(0, 100000) : l * (1 + random.nextInt(90)) - 1;
        int v = random.nextInt(3) == 0 ? near(1, 1000) : l * (1 + random.nextInt(10));
        return same(26, "thinned(" + s + ", " + l + ", " + p + ", " + w + ")", () -> x.thinned(s, l, p, w), () -> m.thinned(s, l, p, w))
            && same(27, "suits(" + l + ", " + t + ", " + v + ")", () -> x.suits(l, t, v) ? 1 : 0, () -> m.suits(l, t, v) ? 1 : 0);
    }

    private boolean series() {
        int s = near(0, 11);
        return same(2, "series()", x::series, m::series)
            && same(3, "labels(" + s + ")", () -> x.labels(s), () -> m.labels(s))
            && same(4, "samples(" + s + ")", () -> x.samples(s), () -> m.samples(s));
    }

    private boolean erase() {
        int s = near(0, 3);
        int f = random.nextInt(8) == 0 ? near(0, 100000) : Math.max(0, now - random.nextInt(150));
        int t = random.nextInt(8) == 0 || f > 100000 ? near(0, 100000) : f + random.nextInt(80) - 2;
        return same(5, "erase(" + s + ", " + f + ", " + t + ")", () -> x.erase(s, f, t), () -> m.erase(s, f, t));
    }

    private boolean select() {
        int s = near(0, 3);
        int a = set();
        int b = set();
        int c = set();
        return same(12, "select(" + s + ", " + a + ", " + b + ", " + c + ")", () -> x.select(s, a, b, c), () -> m.select(s, a, b, c));
    }

    private boolean step() {
        int pick = random.nextInt(100);
        int writes = style == 0 ? 60 : 30;
        if (pick < writes) return write();
        if (pick < writes + 8) return pass();
        if (pick < writes + 18) return word();
        switch (random.nextInt(style == 4 ? 12 : 16)) {
            case 0: return select();
            case 1: return random.nextInt(4) == 0 ? ask() : expression();
            case 2: return expression();
            case 3: return random.nextInt(3) == 0 ? same(14, "clear()", x::clear, m::clear) : ask();
            case 4: return rules();
            case 5: return rules();
            case 6: return look();
            case 7: return levels();
            case 8: return series();
            case 9: return copy();
            case 10: return copy();
            case 11: return look();
            case 12: return random.nextInt(style == 1 ? 10 : 2) == 0 ? erase() : ask();
            default: return random.nextInt(style == 1 ? 4 : 1) == 0 ? blocks() : look();
        }
    }

    private void run() {
        for (int i = 0; i < CALLS; i++) {
            if (!step()) return;
        }
    }

    public static void main(String[] args) {
        int runs = args.length > 0 ? Integer.parseInt(args[0]) : 1500;
        int first = args.length > 1 ? Integer.parseInt(args[1]) : 0;
        for (int i = 0; i < runs && wrong < 3; i++) {
            new ModelTest(first + i).run();
        }
        if (args.length > 0) {
            System.out.println("answered " + java.util.Arrays.toString(answered));
            System.out.println("thrown   " + java.util.Arrays.toString(thrown));
            System.out.println("verdicts " + java.util.Arrays.toString(verdicts));
            System.out.println("sizes from NONE " + java.util.Arrays.toString(sizes));
        }
        System.out.println(wrong == 0 ? "ModelTest: all answers are as due" : "ModelTest: " + wrong + " runs went wrong");
        if (wrong != 0) System.exit(1);
    }
}
