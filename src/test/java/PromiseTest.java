/** For each promise of the document, ordinary arguments, the edges that it names, and wrong ones. */
public final class PromiseTest extends Due {
    /** The first value of an expression at a time. */
    private static long only(Ticksilo x, int time, int... words) {
        draft(x, words);
        int many = x.ask(time);
        if (many != 1) return -1000000000 - many;
        return x.value(0);
    }

    private static int many(Ticksilo x, int time, int... words) {
        draft(x, words);
        return x.ask(time);
    }

    /** Puts the words of AT above a number of thousandths, with selector 0. */
    private static void putAbove(Ticksilo x, int thousandths) {
        draft(x, Ticksilo.AT, 0, 0, Ticksilo.NUMBER, thousandths, 0, Ticksilo.ABOVE, 0, 0);
    }

    private static void newObject() {
        tested = "promise 1";
        Ticksilo x = new Ticksilo();
        due(x.series(), 0);
        due(x.log(), 0);
        due(x.behind(), 0);
        due(x.notices(), 0);
        due(x.clear(), 0);
        due(x.flush(), 0);
        due(x.retain(5), 1000);
        due(x.down(false), false);
        due(x.pass(1), 1);
        index(() -> x.value(0));
        index(() -> x.labelsOf(0));
        index(() -> x.labels(0));
    }

    private static void write() {
        tested = "promise 2";
        Ticksilo x = at(300);
        due(x.write(0, 6, 5, 300, 1000000), Ticksilo.GOOD);
        due(x.write(0, 6, 5, 299, -1000000), Ticksilo.GOOD);
        due(x.write(0, 6, 5, 298, STALE), Ticksilo.GOOD);
        due(x.write(0, 6, 5, 300, 1000000), Ticksilo.DOUBLED);
        due(x.write(0, 6, 5, 298, STALE), Ticksilo.DOUBLED);
        due(x.write(0, 6, 5, 298, 0), Ticksilo.CONFLICT);
        due(x.write(0, 6, 5, 300, STALE), Ticksilo.CONFLICT);
        due(x.write(0, 6, 5, 200, 1), Ticksilo.GOOD);
        due(x.write(0, 6, 5, 199, 1), Ticksilo.LATE);
        due(x.write(0, 6, 4, 199, 1), Ticksilo.GOOD);
        due(x.write(0, 6, 4, 99, 1), Ticksilo.GOOD);
        due(x.write(0, 6, 4, 98, 1), Ticksilo.LATE);
        due(x.write(0, 6, 3, 101, 1), Ticksilo.GOOD);
        due(x.write(0, 6, 3, 0, 1), Ticksilo.LATE);
        argument(() -> x.write(-1, 0, 0, 0, 0));
        argument(() -> x.write(7, 0, 0, 0, 0));
        argument(() -> x.write(0, -1, 0, 0, 0));
        argument(() -> x.write(0, 7, 0, 0, 0));
        argument(() -> x.write(0, 0, -1, 0, 0));
        argument(() -> x.write(0, 0, 7, 0, 0));
        argument(() -> x.write(0, 0, 0, -1, 0));
        argument(() -> x.write(0, 0, 0, 301, 0));
        argument(() -> x.write(0, 0, 0, 0, 1000001));
        argument(() -> x.write(0, 0, 0, 0, -1000001));
        argument(() -> x.write(0, 0, 0, 0, STALE + 1));
        due(x.series(), 3);
        writeErased();
        writeTooMany();
    }

    private static void writeErased() {
        Ticksilo x = at(300);
        x.write(1, 1, 1, 250, 5);
        x.write(1, 1, 1, 300, 6);
        due(x.erase(0, 300, 300), 1);
        // The latest that is seen is that of the time 250 now.
        due(x.write(1, 1, 1, 150, 7), Ticksilo.GOOD);
        due(x.write(1, 1, 1, 149, 7), Ticksilo.LATE);
        due(x.write(1, 1, 1, 300, 8), Ticksilo.GOOD);
        due(x.write(1, 1, 1, 300, 6), Ticksilo.CONFLICT);
        due(x.erase(0, 0, 300), 3);
        due(x.write(1, 1, 1, 0, 8), Ticksilo.GOOD);
    }

    private static void writeTooMany() {
        Ticksilo x = at(100);
        for (int i = 0; i < 59; i++) due(x.write(2, i % 5, 6, i, i), Ticksilo.GOOD);
        due(x.write(2, 5, 6, 0, STALE), Ticksilo.GOOD);
        due(x.write(2, 0, 6, 70, 0), Ticksilo.OVER);
        due(x.write(2, 6, 6, 70, 0), Ticksilo.OVER);
        due(x.series(), 6);
        due(x.write(2, 0, 6, 0, 0), Ticksilo.DOUBLED);
        due(x.write(2, 0, 6, 0, 1), Ticksilo.CONFLICT);
        due(x.write(6, 6, 6, 70, 0), Ticksilo.GOOD);
        due(x.erase(0, 0, 0), 2);
        due(x.write(2, 0, 6, 70, 0), Ticksilo.GOOD);
        due(x.write(2, 0, 6, 71, 0), Ticksilo.GOOD);
        due(x.write(2, 0, 6, 72, 0), Ticksilo.OVER);
        for (int i = 0; i < 5; i++) due(x.write(3, 3, i, 1, 0), Ticksilo.GOOD);
        due(x.series(), 12);
        due(x.write(3, 3, 5, 1, 0), Ticksilo.FULL);
        due(x.write(2, 3, 5, 1, 0), Ticksilo.FULL);
        due(x.write(3, 3, 4, 2, 0), Ticksilo.GOOD);
        Ticksilo y = at(100);
        for (int i = 0; i < 60; i++) due(y.write(1, 0, 0, i, i), Ticksilo.GOOD);
        due(y.write(1, 0, 0, 60, 0), Ticksilo.OVER);
        due(y.write(0, 0, 0, 60, 0), Ticksilo.GOOD);
        due(y.write(0, 6, 6, 60, 0), Ticksilo.GOOD);
    }

    private static void series() {
        tested = "promise 3";
        Ticksilo x = new Ticksilo();
        x.write(1, 2, 3, 0, 4);
        due(x.series(), 1);
        x.write(1, 2, 3, 0, 4);
        x.write(1, 2, 3, 0, 5);
        due(x.series(), 1);
        x.write(1, 2, 6, 0, 4);
        due(x.series(), 2);
        x.crash(2);
        due(x.series(), 2);
        x.flush();
        due(x.series(), 2);
        due(x.samples(0), 0);
    }

    private static void labels() {
        tested = "promise 4";
        Ticksilo x = new Ticksilo();
        x.write(5, 2, 3, 0, 4);
        x.write(0, 0, 0, 0, 4);
        x.write(6, 6, 6, 0, 4);
        x.write(0, 0, 6, 0, STALE);
        due(x.labels(0), 523);
        due(x.labels(1), 0);
        due(x.labels(2), 666);
        due(x.labels(3), 6);
        index(() -> x.labels(4));
        index(() -> x.labels(-1));
    }

    private static void samples() {
        tested = "promise 5";
        Ticksilo x = at(20);
        x.write(0, 0, 0, 3, 4);
        x.write(0, 0, 0, 9, STALE);
        x.write(0, 0, 0, 9, 5);
        due(x.samples(0), 2);
        x.erase(0, 9, 9);
        due(x.samples(0), 1);
        x.crash(1);
        due(x.samples(0), 2);
        index(() -> x.samples(1));
        index(() -> x.samples(-1));
    }

    private static void erase() {
        tested = "promise 6";
        Ticksilo x = at(50);
        for (int t = 10; t <= 50; t += 10) x.write(t / 30, 0, 0, t, t);
        x.select(1, 2, ALL, ALL);
        due(x.erase(1, 0, 29), 0);
        due(x.log(), 6);
        due(x.erase(1, 30, 40), 2);
        due(x.samples(1), 1);
        due(x.erase(1, 30, 40), 0);
        due(x.write(1, 0, 0, 40, 7), Ticksilo.GOOD);
        due(x.samples(1), 2);
        due(x.erase(0, 0, 100000), 4);
        due(x.erase(0, 100000, 100000), 0);
        due(x.crash(3), 8);
        due(x.samples(0), 2);
        due(x.samples(1), 1);
        index(() -> x.erase(4, 0, 0));
        index(() -> x.erase(-1, -1, 0));
        argument(() -> x.erase(0, -1, 0));
        argument(() -> x.erase(0, 1, 0));
        argument(() -> x.erase(0, 0, 100001));
        argument(() -> x.erase(0, 100001, 100001));
        due(x.log(), 8);
    }

    private static void pass() {
        tested = "promise 7";
        Ticksilo x = new Ticksilo();
        argument(() -> x.pass(0));
        argument(() -> x.pass(101));
        argument(() -> x.pass(-1));
        due(x.pass(1), 1);
        due(x.pass(100), 101);
        // A rule is gone through at each multiple of 10.
        x.word(Ticksilo.NUMBER, 3000, 0);
        x.record(0);
        due(x.pass(8), 109);
        due(x.log(), 0);
        due(x.pass(1), 110);
        due(x.log(), 1);
        due(x.pass(100), 210);
        due(x.log(), 11);
        due(x.samples(0), 11);
        Ticksilo y = new Ticksilo();
        for (int i = 1; i <= 999; i++) y.pass(100);
        due(y.pass(99), 99999);
        state(() -> y.pass(2));
        argument(() -> y.pass(101));
        due(y.pass(1), 100000);
        state(() -> y.pass(1));
    }

    private static void retain() {
        tested = "promise 8";
        Ticksilo x = at(100);
        argument(() -> x.retain(0));
        argument(() -> x.retain(100001));
        due(x.retain(100000), 1000);
        due(x.retain(1), 100000);
        due(x.retain(40), 1);
        x.write(0, 0, 0, 59, 1);
        x.write(0, 0, 0, 60, 1);
        due(x.samples(0), 2);
        due(x.flush(), 1);
        due(x.samples(0), 1);
        due(x.write(0, 0, 0, 60, 1), Ticksilo.DOUBLED);
        due(x.write(0, 0, 0, 59, 1), Ticksilo.GOOD);
    }

    private static void flush() {
        tested = "promise 9";
        Ticksilo x = at(250);
        x.write(0, 0, 0, 150, 1);
        x.write(0, 0, 0, 199, 1);
        x.write(0, 0, 0, 200, 1);
        x.write(1, 0, 0, 99, 1);
        due(x.flush(), 3);
        due(x.log(), 0);
        x.write(1, 0, 0, 98, 1);
        x.erase(0, 150, 199);
        due(x.flush(), 2);
        due(x.crash(1000), 0);
        due(x.samples(0), 1);
        due(x.samples(1), 2);
        x.retain(100);
        due(x.flush(), 1);
        due(x.samples(1), 0);
        x.erase(0, 0, 1000);
        due(x.flush(), 0);
        index(() -> x.bits(0, 2));
    }

    private static void log() {
        tested = "promise 10";
        Ticksilo x = at(9);
        x.write(0, 0, 0, 9, 1);
        x.write(0, 0, 0, 9, 1);
        due(x.log(), 1);
        x.erase(0, 0, 0);
        due(x.log(), 2);
        x.word(Ticksilo.AT, 0, 0);
        x.record(1);
        x.pass(1);
        due(x.log(), 3);
        x.flush();
        due(x.log(), 0);
    }

    private static void crash() {
        tested = "promise 11";
        Ticksilo x = at(20);
        x.write(0, 0, 0, 1, 1);
        x.write(0, 0, 0, 2, 1);
        x.flush();
        x.erase(0, 1, 1);
        x.write(0, 0, 0, 1, 2);
        x.write(0, 0, 0, 3, 2);
        x.erase(0, 0, 3);
        x.erase(0, 0, 3);
        due(x.samples(0), 0);
        due(x.crash(0), 5);
        due(x.crash(1), 4);
        due(x.samples(0), 0);
        due(x.crash(1), 3);
        due(x.samples(0), 3);
        due(only(x, 1, Ticksilo.AT, 0, 0), 2000);
        due(x.crash(2), 1);
        due(x.samples(0), 1);
        due(x.crash(1000), 0);
        due(x.samples(0), 2);
        due(only(x, 1, Ticksilo.AT, 0, 0), 1000);
        due(x.write(0, 0, 0, 3, 9), Ticksilo.GOOD);
        argument(() -> x.crash(-1));
        argument(() -> x.crash(1001));
        due(x.log(), 1);
    }

    private static void bits() {
        tested = "promise 12";
        Ticksilo x = at(1000);
        int[] times = {900, 901, 966, 999};
        for (int t : times) x.write(0, 0, 0, t, 8);
        x.write(1, 0, 0, 900, 5);
        x.write(1, 0, 0, 901, STALE);
        x.write(1, 0, 0, 902, STALE);
        x.write(1, 0, 0, 1000, -1);
        index(() -> x.bits(0, 9));
        due(x.flush(), 3);
        // Distances 1, 65, 33: differences 1, 64, -32; values all the same.
        due(x.bits(0, 9), 64 + 10 + 10 + 10);
        // 5 and STALE are unlike in the bits 31, 2 and 0.
        due(x.bits(1, 9), 64 + 9 + 44 + 1 + 1);
        due(x.bits(1, 10), 64);
        x.erase(0, 901, 901);
        due(x.bits(0, 9), 94);
        x.flush();
        // Distances 66, 33: differences 66, -33.
        due(x.bits(0, 9), 64 + 13 + 10);
        index(() -> x.bits(2, 9));
        index(() -> x.bits(-1, 9));
        index(() -> x.bits(0, 8));
        index(() -> x.bits(0, -1));
        index(() -> x.bits(0, Integer.MAX_VALUE));
        bitsOfEdges();
        Ticksilo y = at(100);
        int[] steps = {0, 1, 66, 67};
        for (int t : steps) y.write(0, 0, 0, t, t == 66 ? 256 : 1);
        y.flush();
        // Differences 1, 64, -64; the values 1, 1, 256, 1 are unlike in the bits 8 to 0.
        due(y.bits(0, 0), 64 + 10 + 9 + 21 + 12 + 21);
    }

    private static void bitsOfEdges() {
        Ticksilo x = at(200);
        index(() -> x.bits(0, 0));
        x.write(0, 0, 0, 0, 8);
        index(() -> x.bits(0, 0));
        x.write(0, 0, 0, 1, 12);
        x.write(0, 0, 0, 67, 13);
        x.write(1, 0, 0, 0, -1);
        x.write(1, 0, 0, 70, Integer.MIN_VALUE);
        x.write(1, 0, 0, 77, 0);
        for (int i = 0; i < 60; i++) x.write(2, 0, 0, 2 * i, 96 * (i % 2));
        for (int i = 0; i < 60; i++) x.write(3, 0, 0, 100 + i, 1);
        due(x.flush(), 5);
        // Differences 1, 65; the values are unlike in the bit 2, then in the bit 0.
        due(x.bits(0, 0), 64 + 9 + 13 + 12 + 13);
        // Differences 70, -63; unlike in the bits 30 to 0, then in the bit 31.
        due(x.bits(1, 0), 64 + 12 + 43 + 9 + 13);
        // Each of the first 50 has a distance of 2, and is unlike in the bits 6 and 5.
        due(x.bits(2, 0), 64 + 9 + 14 + 48 * 15);
        due(x.bits(2, 1), 64 + 9 + 14 + 8 * 15);
        due(x.bits(3, 1), 64 + 10 + 58 * 2);
        index(() -> x.bits(3, 0));
    }

    private static void select() {
        tested = "promise 13";
        Ticksilo x = new Ticksilo();
        due(x.select(0, ALL, ALL, ALL), 0);
        x.write(0, 1, 2, 0, 0);
        x.write(0, 1, 6, 0, 0);
        x.write(3, 6, 6, 0, 0);
        due(x.select(3, ALL, ALL, ALL), 3);
        due(x.select(0, 1, ALL, ALL), 2);
        due(x.select(0, 1, ALL, 64), 1);
        due(x.select(0, 9, 64, 64), 1);
        due(x.select(0, 0, ALL, ALL), 0);
        due(x.select(0, ALL, ALL, 4), 1);
        index(() -> x.select(4, 128, 0, 0));
        index(() -> x.select(-1, 0, 0, 0));
        argument(() -> x.select(0, 128, 0, 0));
        argument(() -> x.select(0, -1, 0, 0));
        argument(() -> x.select(0, 0, 128, 0));
        argument(() -> x.select(0, 0, -1, 0));
        argument(() -> x.select(0, 0, 0, 128));
        argument(() -> x.select(0, 0, 0, -1));
        due(many(x, 0, Ticksilo.AT, 0, 0), 1);
    }

    private static void word() {
        tested = "promise 14";
        Ticksilo x = new Ticksilo();
        argument(() -> x.word(-1, 0, 0));
        argument(() -> x.word(16, 0, 0));
        argument(() -> x.word(Ticksilo.NUMBER, 1000001, 0));
        argument(() -> x.word(Ticksilo.NUMBER, -1000001, 0));
        argument(() -> x.word(Ticksilo.AT, 4, 0));
        argument(() -> x.word(Ticksilo.AT, -1, 0));
        argument(() -> x.word(Ticksilo.AT, 0, 1001));
        argument(() -> x.word(Ticksilo.AT, 0, -1));
        for (int what = Ticksilo.COUNT; what <= Ticksilo.RATE; what++) {
            int w = what;
            argument(() -> x.word(w, 4, 1));
            argument(() -> x.word(w, 0, 0));
            argument(() -> x.word(w, 0, 1001));
        }
        for (int what = Ticksilo.SUM; what <= Ticksilo.QUANTILE; what++) {
            int w = what;
            argument(() -> x.word(w, -1, 0));
            argument(() -> x.word(w, w == Ticksilo.QUANTILE ? 1001 : 8, 0));
            state(() -> x.word(w, 0, 0));
        }
        due(x.word(Ticksilo.NUMBER, 1, Integer.MAX_VALUE), 1);
        for (int what = Ticksilo.PLUS; what <= Ticksilo.ABOVE; what++) {
            int w = what;
            state(() -> x.word(w, 0, 0));
        }
        due(x.word(Ticksilo.SUM, 7, Integer.MIN_VALUE), 2);
        due(x.word(Ticksilo.RATE, 3, 1000), 3);
        due(x.word(Ticksilo.MINUS, 7, -5), 4);
        state(() -> x.word(Ticksilo.MINUS, 7, 0));
        for (int i = 5; i <= 10; i++) due(x.word(Ticksilo.QUANTILE, 1000, 0), i);
        state(() -> x.word(Ticksilo.QUANTILE, 1000, 0));
        argument(() -> x.word(Ticksilo.QUANTILE, 1001, 0));
        selectorsOfWords();
    }

    private static void selectorsOfWords() {
        Ticksilo x = new Ticksilo();
        x.write(0, 0, 0, 0, 1);
        x.write(1, 0, 0, 0, 2);
        x.select(2, 2, ALL, ALL);
        x.word(Ticksilo.AT, 2, 0);
        x.select(2, 1, ALL, ALL);
        due(x.ask(0), 1);
        due(x.labelsOf(0), 100);
        x.write(1, 0, 1, 0, 2);
        due(x.ask(0), 2);
    }

    private static void clear() {
        tested = "promise 15";
        Ticksilo x = new Ticksilo();
        x.word(Ticksilo.NUMBER, 0, 0);
        x.word(Ticksilo.NUMBER, 0, 0);
        due(x.clear(), 2);
        due(x.clear(), 0);
        state(() -> x.ask(0));
        due(x.word(Ticksilo.NUMBER, 7, 0), 1);
        x.ask(0);
        x.clear();
        due(x.value(0), 7);
    }

    private static void ask() {
        tested = "promise 16";
        Ticksilo x = at(200);
        state(() -> x.ask(0));
        argument(() -> x.ask(-1));
        argument(() -> x.ask(100001));
        due(many(x, 100000, Ticksilo.NUMBER, -5, 0), 1);
        due(x.value(0), -5);
        due(x.labelsOf(0), 666);
        x.word(Ticksilo.NUMBER, 6, 0);
        state(() -> x.ask(0));
        due(x.value(0), -5);
        due(many(x, 0, Ticksilo.AT, 0, 0), 0);
        index(() -> x.value(0));
        askLatest();
        askWindows();
        askRates();
        askFolds();
        askJoins();
        askBounds();
        askQuantiles();
    }

    private static void askLatest() {
        Ticksilo x = at(200);
        x.write(0, 0, 0, 100, 7);
        due(only(x, 100, Ticksilo.AT, 0, 0), 7000);
        due(only(x, 150, Ticksilo.AT, 0, 0), 7000);
        due(many(x, 151, Ticksilo.AT, 0, 0), 0);
        due(many(x, 99, Ticksilo.AT, 0, 0), 0);
        due(only(x, 1150, Ticksilo.AT, 0, 1000), 7000);
        due(many(x, 1151, Ticksilo.AT, 0, 1000), 0);
        due(many(x, 0, Ticksilo.AT, 0, 1000), 0);
        x.write(0, 0, 0, 120, STALE);
        due(only(x, 119, Ticksilo.AT, 0, 0), 7000);
        due(many(x, 120, Ticksilo.AT, 0, 0), 0);
        x.erase(0, 120, 120);
        due(only(x, 120, Ticksilo.AT, 0, 0), 7000);
        due(only(x, 125, Ticksilo.AT, 0, 5), 7000);
    }

    private static void askWindows() {
        Ticksilo x = at(200);
        int[] values = {-7, 10, STALE, 3, 4};
        for (int i = 0; i < 5; i++) x.write(0, 0, 0, 100 + 10 * i, values[i]);
        due(only(x, 140, Ticksilo.COUNT, 0, 40), 3000);
        due(only(x, 140, Ticksilo.COUNT, 0, 41), 4000);
        due(only(x, 139, Ticksilo.COUNT, 0, 39), 2000);
        due(only(x, 140, Ticksilo.TOTAL, 0, 1000), 10000);
        due(only(x, 140, Ticksilo.LEAST, 0, 1000), -7000);
        due(only(x, 140, Ticksilo.LEAST, 0, 40), 3000);
        due(only(x, 140, Ticksilo.GREATEST, 0, 1000), 10000);
        due(only(x, 140, Ticksilo.GREATEST, 0, 20), 4000);
        due(many(x, 129, Ticksilo.COUNT, 0, 10), 0);
        due(many(x, 99, Ticksilo.LEAST, 0, 1000), 0);
        // -7000, then 1500, 2250, 3125.
        due(only(x, 140, Ticksilo.SMOOTH, 0, 1000), 3125);
        due(only(x, 100, Ticksilo.SMOOTH, 0, 1), -7000);
        Ticksilo y = at(30);
        int[] odd = {1, 0, 0, 0, 0, 0};
        // 1000, 500, 250, 125, 125 - 62 = 63, 63 - 31 = 32: toward 0.
        for (int i = 0; i < 6; i++) y.write(0, 0, 0, i, odd[i]);
        due(only(y, 5, Ticksilo.SMOOTH, 0, 9), 32);
        due(only(y, 4, Ticksilo.SMOOTH, 0, 9), 63);
    }

    private static void askRates() {
        Ticksilo x = at(200);
        x.write(0, 0, 0, 100, 50);
        due(many(x, 100, Ticksilo.RATE, 0, 100), 0);
        x.write(0, 0, 0, 110, 70);
        x.write(0, 0, 0, 115, STALE);
        x.write(0, 0, 0, 121, 20);
        x.write(0, 0, 0, 130, -5);
        // d is 30, of 4: the reach is 5; 20 + 20 + 0; both ends reach farther: e is 40.
        due(only(x, 140, Ticksilo.RATE, 0, 100), 1000 * 40 * 40 / (30 * 100));
        // Just 2 to the end and 1 from the beginning: e is 33.
        due(only(x, 132, Ticksilo.RATE, 0, 33), 1000 * 40 * 33 / (30 * 33));
        due(only(x, 110, Ticksilo.RATE, 0, 20), 1000 * 20 * 15 / (10 * 20));
        due(only(x, 110, Ticksilo.RATE, 0, 11), 1000 * 20 * 11 / (10 * 11));
        // Two that only fall below 0: no increase.
        due(only(x, 130, Ticksilo.RATE, 0, 10), 0);
        due(many(x, 130, Ticksilo.RATE, 0, 9), 0);
        Ticksilo y = at(10);
        y.write(0, 0, 0, 1, -4);
        y.write(0, 0, 0, 2, -5);
        y.write(0, 0, 0, 4, 5);
        due(only(y, 2, Ticksilo.RATE, 0, 2), 0);
        due(only(y, 4, Ticksilo.RATE, 0, 3), 1000 * 10 * 3 / (2 * 3));
        Ticksilo z = at(10);
        z.write(0, 0, 0, 1, 7);
        z.write(0, 0, 0, 2, 9);
        z.write(0, 0, 0, 3, 9);
        // As much as the one ahead is no rise and no fall.
        due(only(z, 3, Ticksilo.RATE, 0, 10), 1000 * 2 * 2 / (2 * 10));
        due(only(z, 2, Ticksilo.RATE, 0, 10), 1000 * 2 / 10);
        // From -5 to 5 are 10; d is 3, the reach 3 / 2 / 2 = 0.
        due(only(y, 10, Ticksilo.RATE, 0, 100), 1000 * 10 * 3 / (3 * 100));
    }

    private static void askFolds() {
        Ticksilo x = new Ticksilo();
        x.write(0, 1, 2, 0, 4);
        x.write(1, 0, 2, 0, 5);
        x.write(0, 6, 3, 0, -9);
        due(only(x, 0, Ticksilo.AT, 0, 0, Ticksilo.SUM, 0, 0), 0);
        due(x.labelsOf(0), 666);
        due(only(x, 0, Ticksilo.AT, 0, 0, Ticksilo.MOST, 0, 0), 5000);
        due(many(x, 0, Ticksilo.AT, 0, 0, Ticksilo.SUM, 1, 0), 2);
        due(x.value(0), -5000);
        due(x.labelsOf(0), 66);
        due(x.labelsOf(1), 166);
        due(many(x, 0, Ticksilo.AT, 0, 0, Ticksilo.MOST, 2, 0), 3);
        // In the order of labels, not in that of the series.
        due(x.labelsOf(0), 606);
        due(x.value(0), 5000);
        due(x.labelsOf(1), 616);
        due(x.value(2), -9000);
        due(many(x, 0, Ticksilo.AT, 0, 0, Ticksilo.SUM, 4, 0), 2);
        due(x.labelsOf(0), 662);
        due(x.value(0), 9000);
        due(many(x, 0, Ticksilo.AT, 0, 0, Ticksilo.SUM, 7, 0), 3);
        due(x.labelsOf(1), 63);
        due(only(x, 0, Ticksilo.NUMBER, -7, 0, Ticksilo.MOST, 0, 0), -7);
    }

    private static void askJoins() {
        Ticksilo x = new Ticksilo();
        x.write(0, 0, 0, 0, 6);
        x.write(0, 0, 1, 0, 8);
        x.write(1, 0, 0, 0, 0);
        x.write(0, 1, 0, 0, -5);
        x.select(1, ALL, ALL, 1);
        x.select(2, 1, 1, 2);
        // The lower ones with the label 2 being 1, joined by label 0: one of 0 has two.
        due(many(x, 0, Ticksilo.AT, 2, 0, Ticksilo.AT, 1, 0, Ticksilo.MINUS, 3, 0), 1);
        due(x.value(0), 2000);
        due(x.labelsOf(0), 1);
        due(many(x, 0, Ticksilo.AT, 2, 0, Ticksilo.AT, 1, 0, Ticksilo.MINUS, 1, 0), Ticksilo.NONE);
        due(many(x, 0, Ticksilo.AT, 1, 0, Ticksilo.AT, 2, 0, Ticksilo.MINUS, 1, 0), 2);
        due(x.value(0), -2000);
        due(x.value(1), -13000);
        due(x.labelsOf(1), 10);
        due(many(x, 0, Ticksilo.AT, 0, 0, Ticksilo.AT, 0, 0, Ticksilo.PER, 7, 0), 3);
        due(x.value(1), 1000);
        due(x.labelsOf(2), 10);
        due(many(x, 0, Ticksilo.AT, 2, 0, Ticksilo.AT, 0, 0, Ticksilo.PLUS, 0, 0), Ticksilo.NONE);
        x.select(3, 0, 0, 0);
        due(many(x, 0, Ticksilo.AT, 3, 0, Ticksilo.AT, 0, 0, Ticksilo.PLUS, 0, 0), 0);
        due(many(x, 0, Ticksilo.NUMBER, 7000, 0, Ticksilo.AT, 0, 0, Ticksilo.PER, 0, 0), 3);
        due(x.value(0), 1166);
        due(x.value(1), 875);
        due(x.value(2), -1400);
        due(many(x, 0, Ticksilo.AT, 0, 0, Ticksilo.NUMBER, 0, 0, Ticksilo.PER, 0, 0), 0);
        due(many(x, 0, Ticksilo.AT, 0, 0, Ticksilo.NUMBER, 0, 0, Ticksilo.ABOVE, 0, 0), 2);
        due(x.value(1), 8000);
        due(many(x, 0, Ticksilo.NUMBER, 0, 0, Ticksilo.AT, 0, 0, Ticksilo.ABOVE, 0, 0), 1);
        due(x.value(0), -5000);
        due(x.labelsOf(0), 10);
        due(many(x, 0, Ticksilo.AT, 0, 0, Ticksilo.AT, 1, 0, Ticksilo.ABOVE, 3, 0), 1);
        due(x.labelsOf(0), 1);
        due(x.value(0), 8000);
        due(only(x, 0, Ticksilo.NUMBER, 2, 0, Ticksilo.NUMBER, 1, 0, Ticksilo.ABOVE, 0, 0), 1000);
        due(only(x, 0, Ticksilo.NUMBER, 2, 0, Ticksilo.NUMBER, 2, 0, Ticksilo.ABOVE, 0, 0), 0);
        due(only(x, 0, Ticksilo.NUMBER, -7, 0, Ticksilo.NUMBER, 2000, 0, Ticksilo.PER, 0, 0), -3);
        due(only(x, 0, Ticksilo.NUMBER, -7, 0, Ticksilo.NUMBER, 500, 0, Ticksilo.TIMES, 0, 0), -3);
        due(many(x, 0, Ticksilo.NUMBER, 1, 0, Ticksilo.NUMBER, 0, 0, Ticksilo.PER, 0, 0), Ticksilo.NONE);
    }

    private static void askBounds() {
        int n = Ticksilo.NUMBER;
        int t = Ticksilo.TIMES;
        int m = 1000000;
        long bound = 100000000000000L;
        Ticksilo x = new Ticksilo();
        // A million thousandths are 1000: each TIMES puts three noughts behind.
        due(only(x, 0, n, m, 0, n, m, 0, t, 0, 0, n, m, 0, t, 0, 0), 1000000000000L);
        due(only(x, 0, n, m, 0, n, m, 0, t, 0, 0, n, m, 0, t, 0, 0, n, m, 0, t, 0, 0), bound);
        due(only(x, 0, n, -m, 0, n, m, 0, t, 0, 0, n, m, 0, t, 0, 0, n, m, 0, t, 0, 0), -bound);
        due(only(x, 0, n, 1999, 0, n, 999999, 0, t, 0, 0), 1998998);
        due(only(x, 0, n, -1999, 0, n, -999999, 0, t, 0, 0), 1998998);
        due(only(x, 0, n, 0, 0, n, -999999, 0, t, 0, 0), 0);
        due(only(x, 0, n, -m, 0, n, 1, 0, Ticksilo.PER, 0, 0, n, 1, 0, Ticksilo.PER, 0, 0), -1000000000000L);
        due(only(x, 0, n, m, 0, n, 1, 0, Ticksilo.PER, 0, 0, n, 1, 0, Ticksilo.PER, 0, 0, n, 1, 0, Ticksilo.PER, 0, 0), bound);
        x.write(0, 0, 0, 0, 1000000);
        x.write(0, 0, 1, 0, 1000000);
        x.write(0, 1, 0, 0, -1000000);
        int a = Ticksilo.AT;
        // A million by a million is a million times a million: 10 to the 15 thousandths, beyond the bound.
        due(many(x, 0, a, 0, 0, a, 0, 0, t, 7, 0), 3);
        due(x.value(0), bound);
        due(x.value(2), bound);
        due(only(x, 0, a, 0, 0, n, m, 0, t, 0, 0, n, 100000, 0, t, 0, 0, Ticksilo.SUM, 0, 0), bound);
        due(only(x, 0, a, 0, 0, n, m, 0, t, 0, 0, n, 100000, 0, t, 0, 0, Ticksilo.MOST, 1, 0), bound);
        // Beyond the bounds on the way, but not at the end: 1 + 1 - 1 of them.
        x.write(0, 1, 1, 0, -500000);
        due(only(x, 0, a, 0, 0, n, m, 0, t, 0, 0, n, 100000, 0, t, 0, 0, Ticksilo.SUM, 1, 0), bound / 2);
        due(many(x, 0, a, 0, 0, n, m, 0, t, 0, 0, n, 100000, 0, t, 0, 0, n, 1, 0, Ticksilo.PLUS, 0, 0), 4);
        due(x.value(0), bound);
        due(x.value(2), 1 - bound);
        due(many(x, 0, a, 0, 0, n, m, 0, t, 0, 0, n, 100000, 0, t, 0, 0, n, 1, 0, Ticksilo.MINUS, 0, 0), 4);
        due(x.value(0), bound - 1);
        due(x.value(2), -bound);
    }

    private static void askQuantiles() {
        int a = Ticksilo.AT;
        int q = Ticksilo.QUANTILE;
        Ticksilo x = new Ticksilo();
        int[] counts = {4, 4, 10, 10, 18, 20};
        for (int i = 0; i < 6; i++) x.write(3, 6, i, 0, counts[i]);
        x.write(3, 6, 6, 0, 1000);
        due(only(x, 0, a, 0, 0, q, 0, 0), 0);
        due(x.labelsOf(0), 366);
        due(only(x, 0, a, 0, 0, q, 100, 0), 500);
        due(only(x, 0, a, 0, 0, q, 200, 0), 1000);
        // Of 20, 201 thousandths are 4.02: in the third, from 2 to 5, 20 of 6000 of the way.
        due(only(x, 0, a, 0, 0, q, 201, 0), 2010);
        due(only(x, 0, a, 0, 0, q, 500, 0), 5000);
        due(only(x, 0, a, 0, 0, q, 700, 0), 15000);
        due(only(x, 0, a, 0, 0, q, 900, 0), 20000);
        due(only(x, 0, a, 0, 0, q, 901, 0), 20000);
        due(only(x, 0, a, 0, 0, q, 1000, 0), 20000);
        // Rounded down: 1 of 3 of the way from 0 to 1.
        Ticksilo y = new Ticksilo();
        y.write(0, 0, 1, 0, 3);
        y.write(0, 1, 5, 0, 3);
        y.write(0, 2, 3, 0, -3);
        y.write(0, 2, 4, 0, 0);
        y.write(0, 3, 0, 0, 0);
        y.write(0, 3, 1, 0, 3);
        y.write(0, 4, 6, 0, 3);
        due(many(y, 0, a, 0, 0, q, 334, 0), 3);
        due(y.value(0), 2000 * 1002 / 3000);
        due(y.labelsOf(0), 6);
        due(y.value(1), 0);
        due(y.labelsOf(1), 16);
        due(y.value(2), 1000 + 1000 * 1002 / 3000);
        due(y.labelsOf(2), 36);
        due(many(y, 0, a, 0, 0, q, 0, 0), 3);
        due(y.value(2), 0);
        due(many(y, 0, Ticksilo.NUMBER, 5, 0, q, 0, 0), 0);
        Ticksilo z = new Ticksilo();
        z.write(0, 0, 0, 0, -5);
        z.write(0, 0, 1, 0, 5);
        // The rank 0 lies half of the way from -5 to 5.
        due(only(z, 0, a, 0, 0, q, 0, 0), 1500);
        // 5 by a thousandth are 5 thousandths; the rank 1 lies 6 of 10 of the way.
        due(only(z, 0, a, 0, 0, Ticksilo.NUMBER, 1, 0, Ticksilo.TIMES, 7, 0, q, 200, 0), 1600);
        Ticksilo w = new Ticksilo();
        w.write(0, 0, 0, 0, 1);
        due(only(w, 0, a, 0, 0, Ticksilo.NUMBER, 1, 0, Ticksilo.TIMES, 7, 0, q, 1000, 0), 1000);
        due(only(w, 0, a, 0, 0, Ticksilo.NUMBER, 1, 0, Ticksilo.TIMES, 7, 0, q, 999, 0), 0);
    }

    private static void value() {
        tested = "promise 17";
        Ticksilo x = new Ticksilo();
        x.write(1, 1, 1, 0, 3);
        x.write(0, 1, 1, 0, -2);
        due(many(x, 0, Ticksilo.AT, 0, 0), 2);
        due(x.value(0), -2000);
        due(x.value(1), 3000);
        index(() -> x.value(2));
        index(() -> x.value(-1));
        // It stays as it was asked.
        x.erase(0, 0, 0);
        argument(() -> x.ask(100001));
        x.clear();
        state(() -> x.ask(0));
        due(x.value(1), 3000);
        due(many(x, 0, Ticksilo.NUMBER, 1, 0, Ticksilo.NUMBER, 0, 0, Ticksilo.PER, 0, 0), Ticksilo.NONE);
        index(() -> x.value(0));
    }

    private static void labelsOf() {
        tested = "promise 18";
        Ticksilo x = new Ticksilo();
        x.write(1, 6, 1, 0, 3);
        x.write(0, 1, 6, 0, -2);
        due(many(x, 0, Ticksilo.AT, 0, 0), 2);
        due(x.labelsOf(0), 16);
        due(x.labelsOf(1), 161);
        index(() -> x.labelsOf(2));
        index(() -> x.labelsOf(-1));
        due(many(x, 0, Ticksilo.NUMBER, 4, 0), 1);
        due(x.labelsOf(0), 666);
    }

    private static void record() {
        tested = "promise 19";
        Ticksilo x = new Ticksilo();
        argument(() -> x.record(6));
        argument(() -> x.record(-1));
        state(() -> x.record(0));
        x.word(Ticksilo.NUMBER, -2999, 0);
        x.word(Ticksilo.NUMBER, 0, 0);
        state(() -> x.record(0));
        x.word(Ticksilo.PLUS, 0, 0);
        due(x.record(5), 1);
        due(x.clear(), 0);
        x.word(Ticksilo.COUNT, 0, 10);
        due(x.record(4), 2);
        x.word(Ticksilo.NUMBER, 1, 0);
        x.word(Ticksilo.NUMBER, 0, 0);
        x.word(Ticksilo.PER, 0, 0);
        due(x.record(3), 3);
        index(() -> x.entries(0, false));
        x.pass(10);
        due(x.series(), 2);
        due(x.labels(0), 665);
        // The second rule sees what the first one has written.
        due(x.labels(1), 664);
        due(only(x, 10, Ticksilo.AT, 0, 0, Ticksilo.SUM, 7, 0, Ticksilo.MOST, 0, 0), 1000);
        x.select(0, ALL, ALL, 32);
        due(only(x, 10, Ticksilo.AT, 0, 0), -2000);
        x.clear();
        recordBounds();
        recordOrder();
    }

    private static void recordBounds() {
        Ticksilo x = at(9);
        x.write(0, 0, 0, 9, 1000000);
        x.write(0, 1, 0, 9, -1000000);
        x.write(0, 2, 0, 9, 1);
        x.word(Ticksilo.AT, 0, 0);
        x.word(Ticksilo.NUMBER, 1999, 0);
        x.word(Ticksilo.TIMES, 0, 0);
        x.record(1);
        x.pass(1);
        due(x.series(), 6);
        x.select(1, ALL, ALL, 2);
        due(many(x, 10, Ticksilo.AT, 1, 0), 3);
        due(x.value(0), 1000000000L);
        due(x.value(1), -1000000000L);
        due(x.value(2), 1000);
        due(x.labelsOf(2), 21);
    }

    private static void recordOrder() {
        Ticksilo x = at(9);
        x.write(0, 0, 0, 9, 5);
        x.write(0, 0, 1, 9, 6);
        x.write(0, 0, 2, 10 - 1, 5);
        x.word(Ticksilo.AT, 0, 0);
        x.record(2);
        x.pass(1);
        // The first one is written; the others are of the same labels and time.
        due(x.log(), 4);
        x.select(1, ALL, ALL, 4);
        due(only(x, 10, Ticksilo.AT, 1, 0), 5000);
        for (int i = 2; i <= 8; i++) {
            x.clear();
            x.word(Ticksilo.NUMBER, 1, 0);
            due(x.record(0), i);
        }
        x.word(Ticksilo.NUMBER, 1, 0);
        state(() -> x.record(0));
        argument(() -> x.record(6));
        due(x.clear(), 1);
    }

    private static void alert() {
        tested = "promise 20";
        Ticksilo x = new Ticksilo();
        argument(() -> x.alert(-1, 0));
        argument(() -> x.alert(1001, 0));
        argument(() -> x.alert(0, -1));
        argument(() -> x.alert(0, 1001));
        state(() -> x.alert(0, 0));
        int[] numbers = {1, 0, -1};
        for (int i = 0; i < 3; i++) {
            x.word(Ticksilo.NUMBER, numbers[i], 0);
            due(x.alert(1000, 1000), i);
            due(x.clear(), 0);
        }
        x.word(Ticksilo.NUMBER, 1, 0);
        x.word(Ticksilo.NUMBER, 0, 0);
        x.word(Ticksilo.PER, 0, 0);
        due(x.alert(0, 0), 3);
        x.pass(10);
        due(x.entries(0, false), 1);
        due(x.entry(0, 0, 0), 666);
        due(x.entries(1, false), 0);
        due(x.entries(2, false), 0);
        due(x.entries(3, false), 0);
        for (int i = 4; i < 8; i++) {
            x.word(Ticksilo.NUMBER, 1, 0);
            due(x.alert(0, 0), i);
        }
        x.word(Ticksilo.NUMBER, 1, 0);
        state(() -> x.alert(0, 0));
        due(x.clear(), 1);
        waitingAndFiring();
    }

    private static void waitingAndFiring() {
        Ticksilo x = at(5);
        x.write(0, 0, 0, 5, 9);
        putAbove(x, 5000);
        x.alert(20, 30);
        x.pass(5);
        due(x.entry(0, 0, 1), Ticksilo.WAITING);
        due(x.entry(0, 0, 2), 10);
        x.pass(19);
        due(x.entry(0, 0, 1), Ticksilo.WAITING);
        x.pass(1);
        due(x.entry(0, 0, 1), Ticksilo.FIRING);
        due(x.entry(0, 0, 2), 30);
        due(x.notices(), 1);
        x.write(0, 0, 0, 30, 1);
        x.pass(30);
        // It was there last at 30, as long ago as it is kept.
        due(x.entries(0, true), 1);
        due(x.entry(0, 0, 2), 30);
        x.write(0, 0, 0, 60, 9);
        x.pass(10);
        // There again, and never over.
        due(x.entry(0, 0, 2), 30);
        due(x.notices(), 1);
        x.write(0, 0, 0, 70, 1);
        x.pass(30);
        due(x.entries(0, true), 1);
        x.pass(10);
        due(x.entries(0, false), 0);
        x.write(0, 0, 0, 110, 9);
        x.pass(10);
        due(x.entry(0, 0, 1), Ticksilo.WAITING);
        due(x.entry(0, 0, 2), 120);
        due(x.entry(0, 0, 3), 0);
        // One that waits is over as soon as it is not there.
        x.write(0, 0, 0, 120, STALE);
        x.pass(10);
        due(x.entries(0, false), 0);
        x.write(0, 0, 0, 130, 9);
        x.pass(30);
        due(x.entry(0, 0, 2), 160);
        due(x.notices(), 2);
    }

    private static void inhibit() {
        tested = "promise 21";
        Ticksilo x = at(5);
        x.write(0, 0, 0, 5, 9);
        x.write(1, 0, 0, 5, 4);
        x.word(Ticksilo.NUMBER, 0, 0);
        x.record(0);
        putAbove(x, 8000);
        due(x.alert(0, 0), 1);
        putAbove(x, 1000);
        due(x.alert(0, 0), 2);
        putAbove(x, 1000);
        due(x.alert(10, 0), 3);
        due(x.inhibit(2, 1), Ticksilo.NONE);
        due(x.inhibit(2, Ticksilo.NONE), 1);
        due(x.inhibit(2, 1), Ticksilo.NONE);
        due(x.inhibit(3, 1), Ticksilo.NONE);
        due(x.inhibit(3, 2), 1);
        index(() -> x.inhibit(0, Ticksilo.NONE));
        index(() -> x.inhibit(4, 1));
        index(() -> x.inhibit(-1, 1));
        index(() -> x.inhibit(2, 2));
        index(() -> x.inhibit(2, 3));
        index(() -> x.inhibit(2, 0));
        index(() -> x.inhibit(2, -2));
        x.pass(5);
        // Alert 1 fires for the label 0 of 0, so alert 2 tells only that of 1.
        due(x.notices(), 2);
        due(x.notice(1, 0), 2);
        due(x.notice(1, 1), 100);
        due(x.entry(2, 0, 1), Ticksilo.FIRING);
        due(x.entry(2, 0, 3), 0);
        x.pass(10);
        due(x.entries(3, true), 2);
        due(x.notices(), 2);
        x.inhibit(2, Ticksilo.NONE);
        due(x.inhibit(3, Ticksilo.NONE), 2);
        // Those that were FIRING all the time are told as soon as nothing inhibits them.
        x.pass(10);
        due(x.notices(), 5);
        due(x.notice(2, 0), 2);
        due(x.notice(2, 1), 0);
        due(x.notice(3, 0), 3);
        due(x.notice(4, 1), 100);
        inhibitedByTheFirst();
    }

    private static void inhibitedByTheFirst() {
        Ticksilo x = at(5);
        x.write(0, 0, 0, 5, 9);
        x.write(6, 0, 0, 5, 9);
        putAbove(x, 1000);
        x.alert(20, 0);
        putAbove(x, 1000);
        x.alert(10, 0);
        due(x.inhibit(1, 0), Ticksilo.NONE);
        index(() -> x.inhibit(0, 0));
        index(() -> x.inhibit(2, 0));
        index(() -> x.inhibit(0, 1));
        // An entry of alert 0 that is WAITING doesn't inhibit.
        x.pass(15);
        due(x.entries(0, true), 0);
        due(x.notices(), 2);
        x.pass(10);
        due(x.notices(), 4);
        Ticksilo y = at(5);
        y.write(6, 0, 0, 5, 9);
        putAbove(y, 1000);
        y.alert(0, 0);
        putAbove(y, 1000);
        y.alert(0, 0);
        y.inhibit(1, 0);
        // Both are without the label 0.
        y.pass(5);
        due(y.notices(), 1);
        due(y.notice(0, 0), 0);
        due(y.notice(0, 1), 600);
    }

    private static void silence() {
        tested = "promise 22";
        Ticksilo x = at(5);
        x.write(0, 0, 0, 5, 9);
        x.write(1, 0, 6, 5, 9);
        putAbove(x, 1000);
        x.alert(0, 0);
        x.select(1, ALL, ALL, 64);
        due(x.silence(1, 20), 1);
        x.select(1, 0, 0, 0);
        index(() -> x.silence(4, 0));
        index(() -> x.silence(-1, -1));
        argument(() -> x.silence(0, -1));
        argument(() -> x.silence(0, 100001));
        x.pass(5);
        due(x.notices(), 1);
        due(x.notice(0, 1), 0);
        x.pass(10);
        due(x.notices(), 1);
        x.pass(10);
        due(x.notices(), 2);
        due(x.notice(1, 1), 106);
        due(x.notice(1, 2), 30);
        due(x.silence(3, 0), 2);
        for (int i = 3; i <= 10; i++) due(x.silence(3, 100000), i);
        state(() -> x.silence(3, 100000));
        argument(() -> x.silence(3, 100001));
        index(() -> x.silence(4, 100000));
    }

    private static void entries() {
        tested = "promise 23";
        Ticksilo x = at(5);
        x.write(0, 0, 0, 5, 9);
        putAbove(x, 1000);
        x.alert(10, 0);
        due(x.entries(0, false), 0);
        x.pass(5);
        x.write(1, 0, 0, 10, 9);
        x.pass(10);
        due(x.entries(0, false), 2);
        due(x.entries(0, true), 1);
        x.pass(10);
        due(x.entries(0, true), 2);
        index(() -> x.entries(1, false));
        index(() -> x.entries(-1, true));
        x.word(Ticksilo.NUMBER, 0, 0);
        x.record(0);
        index(() -> x.entries(1, false));
    }

    private static void entry() {
        tested = "promise 24";
        Ticksilo x = at(5);
        x.write(3, 0, 0, 5, 9);
        putAbove(x, 1000);
        x.alert(10, 0);
        x.pass(5);
        x.write(1, 0, 6, 10, 9);
        x.pass(10);
        due(x.entry(0, 0, 0), 106);
        due(x.entry(0, 0, 1), 0);
        due(x.entry(0, 0, 2), 20);
        due(x.entry(0, 0, 3), 0);
        due(x.entry(0, 1, 0), 300);
        due(x.entry(0, 1, 1), 1);
        due(x.entry(0, 1, 2), 20);
        due(x.entry(0, 1, 3), 1);
        index(() -> x.entry(0, 2, 9));
        index(() -> x.entry(0, -1, 0));
        index(() -> x.entry(1, 0, 0));
        argument(() -> x.entry(0, 0, 4));
        argument(() -> x.entry(0, 0, -1));
    }

    private static void notices() {
        tested = "promise 25";
        Ticksilo x = new Ticksilo();
        x.word(Ticksilo.NUMBER, 1, 0);
        x.alert(0, 0);
        x.pass(9);
        due(x.notices(), 0);
        x.pass(1);
        due(x.notices(), 1);
        x.pass(100);
        due(x.notices(), 1);
    }

    private static void notice() {
        tested = "promise 26";
        Ticksilo x = new Ticksilo();
        for (int i = 0; i < 8; i++) {
            x.word(Ticksilo.AT, 0, 0);
            x.alert(0, 0);
        }
        // Series that come up one by one are told by eight alerts each.
        for (int i = 0; i < 7; i++) {
            x.write(i, 0, 0, 10 * i, 1);
            x.pass(10);
        }
        due(x.notices(), 56);
        x.write(0, 1, 0, 70, 1);
        x.pass(10);
        due(x.notices(), 64);
        due(x.notice(59, 0), 3);
        due(x.notice(59, 1), 10);
        due(x.notice(59, 2), 80);
        due(x.notice(8, 0), 0);
        due(x.notice(8, 1), 100);
        due(x.notice(8, 2), 20);
        index(() -> x.notice(60, 0));
        index(() -> x.notice(-1, 3));
        argument(() -> x.notice(0, 3));
        argument(() -> x.notice(0, -1));
    }

    private static void thinned() {
        tested = "promise 27";
        Ticksilo x = at(210);
        x.write(0, 0, 0, 110, 5);
        x.write(0, 0, 0, 119, -8);
        x.write(0, 0, 0, 115, STALE);
        x.write(0, 0, 0, 120, 100);
        x.write(0, 0, 0, 200, 1000);
        int[] tens = {2, -3, -8, 5};
        int[] hundreds = {3, 97, -8, 100};
        for (int what = 0; what < 4; what++) {
            due(x.thinned(0, 10, 11, what), tens[what]);
            due(x.thinned(0, 100, 1, what), hundreds[what]);
            due(x.thinned(0, 100, 0, what), 0);
            due(x.thinned(0, 100, 10000, what), 0);
        }
        x.erase(0, 119, 119);
        due(x.thinned(0, 10, 11, 2), 5);
        index(() -> x.thinned(1, 50, 0, 0));
        index(() -> x.thinned(-1, 10, 0, 0));
        argument(() -> x.thinned(0, 11, 0, 0));
        argument(() -> x.thinned(0, 10, -1, 0));
        argument(() -> x.thinned(0, 10, 10001, 0));
        argument(() -> x.thinned(0, 10, 0, 4));
        argument(() -> x.thinned(0, 10, 0, -1));
    }

    private static void suits() {
        tested = "promise 28";
        Ticksilo x = new Ticksilo();
        due(x.suits(10, 9, 10), true);
        due(x.suits(10, 10, 10), false);
        due(x.suits(10, 29, 30), true);
        due(x.suits(10, 29, 29), false);
        due(x.suits(10, 29, 31), false);
        due(x.suits(100, 29, 30), false);
        due(x.suits(100, 299, 300), true);
        due(x.suits(100, 299, 290), false);
        due(x.suits(100, 99999, 1000), true);
        due(x.suits(10, 100000, 1000), false);
        due(x.suits(10, 0, 10), false);
        due(x.suits(10, 9, 1), false);
        argument(() -> x.suits(1, 9, 10) ? 1 : 0);
        argument(() -> x.suits(10, -1, 10) ? 1 : 0);
        argument(() -> x.suits(10, 100001, 10) ? 1 : 0);
        argument(() -> x.suits(10, 9, 0) ? 1 : 0);
        argument(() -> x.suits(10, 9, 1001) ? 1 : 0);
    }

    private static void down() {
        tested = "promise 29";
        Ticksilo x = new Ticksilo();
        due(x.down(true), false);
        due(x.down(true), true);
        x.write(0, 0, 0, 0, 0);
        due(x.behind(), 1);
        due(x.down(false), true);
        due(x.down(false), false);
        x.write(0, 0, 1, 0, 0);
        due(x.behind(), 1);
    }

    private static void behind() {
        tested = "promise 30";
        Ticksilo x = at(9);
        x.down(true);
        x.write(0, 0, 0, 8, 0);
        x.write(0, 0, 0, 9, 0);
        x.write(0, 0, 0, 9, 0);
        x.word(Ticksilo.AT, 0, 0);
        x.record(1);
        x.pass(1);
        due(x.behind(), 3);
        x.erase(0, 9, 9);
        due(x.behind(), 2);
        x.crash(1);
        due(x.behind(), 3);
        x.crash(1);
        due(x.behind(), 2);
        x.flush();
        due(x.behind(), 2);
        x.retain(1);
        x.flush();
        due(x.behind(), 1);
    }

    private static void mend() {
        tested = "promise 31";
        Ticksilo x = at(30);
        argument(() -> x.mend(0));
        argument(() -> x.mend(1001));
        due(x.mend(1000), 0);
        x.down(true);
        x.write(1, 0, 0, 20, 1);
        x.write(0, 0, 0, 10, 1);
        x.write(1, 0, 0, 15, 1);
        x.down(false);
        x.write(1, 0, 0, 14, 1);
        x.flush();
        due(x.mend(1), 1);
        due(x.behind(), 2);
        // That of the time 20 was written first: without it as many are behind.
        x.erase(0, 20, 20);
        due(x.behind(), 2);
        x.down(true);
        due(x.mend(1), 1);
        x.erase(0, 10, 10);
        due(x.behind(), 1);
        due(x.mend(1000), 1);
        due(x.behind(), 0);
        x.crash(2);
        due(x.behind(), 0);
        due(x.down(true), true);
    }

    public static void main(String[] args) {
        newObject();
        write();
        series();
        labels();
        samples();
        erase();
        pass();
        retain();
        flush();
        log();
        crash();
        bits();
        select();
        word();
        clear();
        ask();
        value();
        labelsOf();
        record();
        alert();
        inhibit();
        silence();
        entries();
        entry();
        notices();
        notice();
        thinned();
        suits();
        down();
        behind();
        mend();
        System.out.println(wrong == 0 ? "PromiseTest: all answers are as due" : "PromiseTest: " + wrong + " answers are not as due");
        if (wrong != 0) System.exit(1);
    }
}
