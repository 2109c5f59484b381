/** Boundary cases of BLOCKS, LOG and of the promises 8 to 12. */
final class BlocksEdges extends Due {
    // ---- BLOCKS, LOG

    @Sentence(under = "BLOCKS, LOG", says = "All that is GOOD, and each erasing, is a record of the log, in order.")
    static void justGoodOnesAndErasingsAreRecords() {
        Ticksilo x = at(300);
        due(x.log(), 0);
        due(x.erase(0, 0, 0), 0);
        due(x.log(), 1);
        due(x.write(0, 0, 0, 300, 1), GOOD);
        due(x.log(), 2);
        due(x.write(0, 0, 0, 300, 1), DOUBLED);
        due(x.write(0, 0, 0, 300, 2), CONFLICT);
        due(x.write(0, 0, 0, 199, 2), LATE);
        argument(() -> x.write(0, 0, 0, 301, 2));
        argument(() -> x.erase(0, 1, 0));
        index(() -> x.erase(4, 0, 0));
        due(x.log(), 2);
        for (int i = 0; i < 59; i++) x.write(0, 0, 1, i, 0);
        due(x.log(), 61);
        due(x.write(0, 0, 1, 59, 0), OVER);
        due(x.log(), 61);
        for (int i = 0; i < 11; i++) x.write(1, i / 6, i % 6, 0, 0);
        due(x.log(), 71);
        due(x.write(2, 0, 0, 0, 0), FULL);
        due(x.log(), 71);
        due(x.erase(0, LAST, LAST), 0);
        due(x.log(), 72);
    }

    @Sentence(under = "BLOCKS, LOG", says = "is a record of the log, in order")
    static void recordsOfRulesStandInTheLogToo() {
        Ticksilo x = with(9, 9, 4);
        draft(x, AT, 0, 0);
        x.record(1);
        x.pass(1);
        due(x.log(), 2);
        x.write(0, 0, 0, 10, 5);
        due(x.crash(2), 1);
        due(x.samples(0), 1);
        due(x.samples(1), 0);
    }

    @Sentence(under = "BLOCKS, LOG", says = "To flush is to take all samples that are seen, and not older than retention tells, into blocks, for each series and each hundred of times;")
    static void blocksBeginAtEachHundred() {
        Ticksilo x = with(300, 99, 1);
        due(x.flush(), 1);
        index(() -> x.bits(0, 1));
        x.write(0, 0, 0, 100, 1);
        due(x.flush(), 2);
        x.write(0, 0, 0, 199, 1);
        due(x.flush(), 2);
        x.write(0, 0, 0, 200, 1);
        due(x.flush(), 3);
        put(x, 1, 200, 1);
        due(x.flush(), 4);
        due(x.bits(0, 0), 64);
        // Times 100 and 199 apart by 99, and the same value.
        due(x.bits(0, 1), 64 + 12 + 1);
        due(x.bits(0, 2), 64);
        due(x.bits(1, 2), 64);
        index(() -> x.bits(1, 1));
        index(() -> x.bits(0, 3));
    }

    @Sentence(under = "BLOCKS, LOG", says = "all samples that are seen")
    static void blocksTakeWhatIsSeenOnly() {
        Ticksilo x = with(300, 100, 1, 110, 1, 120, 1, 200, STALE);
        x.erase(0, 110, 110);
        due(x.flush(), 2);
        due(x.bits(0, 1), 64 + 9 + 1);
        due(x.bits(0, 2), 64);
        x.erase(0, 200, 200);
        due(x.flush(), 1);
        index(() -> x.bits(0, 2));
        x.erase(0, 0, LAST);
        due(x.flush(), 0);
        index(() -> x.bits(0, 1));
    }

    @Sentence(under = "BLOCKS, LOG", says = "others are gone, and the log and erasings are empty then.")
    static void theLogAndErasingsAreEmptyBehindFlushing() {
        Ticksilo x = with(10, 5, 1, 6, 2);
        x.erase(0, 6, 6);
        due(x.log(), 3);
        due(x.flush(), 1);
        due(x.log(), 0);
        due(x.crash(1000), 0);
        // Nothing is torn off, nor is anything seen again.
        due(x.samples(0), 1);
        due(told(x, 10, AT, 0, 0), "000=1000");
        due(x.write(0, 0, 0, 6, 3), GOOD);
        due(x.crash(1), 0);
        due(x.samples(0), 1);
        due(x.flush(), 1);
        due(x.samples(0), 1);
    }

    @Sentence(under = "BLOCKS, LOG", says = "Retention is 1000 at first: a sample is too old, if now less its time is more than that.")
    static void retentionIs1000AtFirst() {
        Ticksilo x = with(2000, 999, 1, 1000, 2, 1001, 3);
        due(x.samples(0), 3);
        due(x.flush(), 1);
        due(x.samples(0), 2);
        due(told(x, 2000, LEAST, 0, 1000), "000=3000");
        due(told(x, 1000, AT, 0, 0), "000=2000");
        due(told(x, 999, AT, 0, 0), "");
        x.pass(1);
        due(x.samples(0), 2);
        due(x.flush(), 1);
        due(x.samples(0), 1);
        x.pass(1);
        due(x.flush(), 0);
        due(x.samples(0), 0);
        due(new Ticksilo().retain(1000), 1000);
    }

    @Sentence(under = "BLOCKS, LOG", says = "a sample is too old, if now less its time is more than that.")
    static void samplesOfTheTime0() {
        Ticksilo x = with(1000, 0, 1);
        due(x.flush(), 1);
        due(x.samples(0), 1);
        x.pass(1);
        due(x.flush(), 0);
        due(x.samples(0), 0);
    }

    @Sentence(under = "BLOCKS, LOG", says = "A crash takes the last records out of the log, as many as are told: these samples and erasings are gone; the series stay.")
    static void aCrashTakesTheLastRecords() {
        Ticksilo x = with(10, 1, 1, 2, 2, 3, 3);
        x.erase(0, 1, 2);
        put(x, 111, 4, 4);
        due(x.crash(0), 5);
        due(x.samples(0), 1);
        due(x.crash(1), 4);
        due(x.samples(1), 0);
        due(x.series(), 2);
        due(x.labels(1), 111);
        due(x.crash(1), 3);
        due(x.samples(0), 3);
        due(x.crash(2), 1);
        due(told(x, 10, TOTAL, 0, 100), "000=1000");
        due(x.crash(2), 0);
        due(x.samples(0), 0);
        due(x.series(), 2);
        due(x.crash(1), 0);
        due(x.write(0, 0, 0, 0, 9), GOOD);
        due(x.log(), 1);
    }

    @Sentence(under = "BLOCKS, LOG", says = "these samples and erasings are gone")
    static void erasingsAreTakenBackOneByOne() {
        Ticksilo x = with(10, 1, 1, 2, 2, 3, 3);
        x.erase(0, 2, 2);
        x.erase(0, 1, 3);
        x.write(0, 0, 0, 2, 7);
        x.erase(0, 2, 2);
        due(x.crash(1), 6);
        due(told(x, 10, TOTAL, 0, 10), "000=7000");
        due(x.crash(1), 5);
        due(told(x, 10, TOTAL, 0, 10), "");
        due(x.crash(1), 4);
        due(told(x, 10, TOTAL, 0, 10), "000=4000");
        due(x.crash(1), 3);
        due(told(x, 10, TOTAL, 0, 10), "000=6000");
        due(told(x, 2, AT, 0, 0), "000=2000");
    }

    @Sentence(under = "BLOCKS, LOG", says = "these samples and erasings are gone; the series stay.")
    static void aCrashLeavesWhatWasFlushed() {
        Ticksilo x = with(10, 1, 1);
        x.flush();
        x.write(0, 0, 0, 2, 2);
        due(x.crash(1000), 0);
        due(x.samples(0), 1);
        due(x.bits(0, 0), 64);
    }

    /** Into how many bits the block of the hundred 0 is packed that has samples of some times and values. */
    private static int bitsOf(int... timesAndValues) {
        Ticksilo x = with(99, timesAndValues);
        x.flush();
        return x.bits(0, 0);
    }

    /** A block of the time 0 and three later ones with the same value; the last two differ by a difference. */
    private static int bitsOfTimes(int second, int third) {
        return bitsOf(0, 5, second, 5, third, 5) - bitsOf(0, 5, second, 5);
    }

    @Sentence(under = "BLOCKS, LOG", says = "A block is packed into bits: of its first sample the time takes 32 and the value 32;")
    static void theFirstSampleTakes64() {
        due(bitsOf(0, 0), 64);
        due(bitsOf(99, STALE), 64);
        due(bitsOf(50, -1000000), 64);
        Ticksilo x = with(300, 100, 5, 200, 5, 300, 5);
        due(x.flush(), 3);
        for (int h = 1; h <= 3; h++) due(x.bits(0, h), 64);
    }

    @Sentence(under = "BLOCKS, LOG", says = "of a later one the time takes, by the difference between its distance to the time ahead and the distance ahead of that (0 for the second sample):")
    static void theSecondTakesItsDistanceItself() {
        due(bitsOf(0, 5, 1, 5), 64 + 9 + 1);
        due(bitsOf(0, 5, 64, 5), 64 + 9 + 1);
        due(bitsOf(0, 5, 65, 5), 64 + 12 + 1);
        due(bitsOf(0, 5, 99, 5), 64 + 12 + 1);
        due(bitsOf(35, 5, 99, 5), 64 + 9 + 1);
        due(bitsOf(34, 5, 99, 5), 64 + 12 + 1);
        // In each block anew, also behind a block with distances.
        Ticksilo x = with(170, 0, 5, 70, 5, 100, 5, 170, 5);
        x.flush();
        due(x.bits(0, 0), 64 + 12 + 1);
        due(x.bits(0, 1), 64 + 12 + 1);
    }

    @Sentence(under = "BLOCKS, LOG", says = "1 if that is 0, 9 from -63 to 64,")
    static void aDifferenceOf0Takes1() {
        due(bitsOfTimes(30, 60), 1 + 1);
        due(bitsOfTimes(30, 61), 9 + 1);
        due(bitsOfTimes(30, 59), 9 + 1);
        due(bitsOfTimes(1, 2), 1 + 1);
        due(bitsOf(0, 5, 1, 5, 2, 5, 3, 5), 64 + 10 + 2 + 2);
    }

    @Sentence(under = "BLOCKS, LOG", says = "9 from -63 to 64, 12 from -255 to 256, 36 otherwise;")
    static void differencesFromMinus63To64Take9() {
        due(bitsOfTimes(1, 66), 9 + 1);
        due(bitsOfTimes(1, 65), 9 + 1);
        due(bitsOfTimes(64, 65), 9 + 1);
        due(bitsOfTimes(63, 64), 9 + 1);
    }

    /** A hundred has no greater difference than 99 and no less one than -97, so 36 can't come up. */
    @Sentence(under = "BLOCKS, LOG", says = "12 from -255 to 256, 36 otherwise;")
    static void differencesBeyondTake12() {
        due(bitsOfTimes(1, 67), 12 + 1);
        due(bitsOfTimes(65, 66), 12 + 1);
        due(bitsOfTimes(98, 99), 12 + 1);
        due(bitsOfTimes(1, 99), 12 + 1);
        due(bitsOf(0, 5, 99, 5), 64 + 12 + 1);
    }

    @Sentence(under = "BLOCKS, LOG", says = "and the value, by the bits that are unlike in it and in the value ahead, both as ints: 1 if there are none;")
    static void theSameValueTakes1() {
        due(bitsOf(0, 0, 1, 0), 64 + 9 + 1);
        due(bitsOf(0, -1000000, 1, -1000000), 64 + 9 + 1);
        due(bitsOf(0, 1000000, 1, 1000000), 64 + 9 + 1);
        due(bitsOf(0, STALE, 1, STALE), 64 + 9 + 1);
        due(bitsOf(0, 7, 1, 8, 2, 7), 64 + 9 + 16 + 1 + 16);
    }

    /** The bits that a value takes behind another one. */
    private static int bitsOfValues(int ahead, int value) {
        return bitsOf(0, ahead, 1, value) - 64 - 9;
    }

    @Sentence(under = "BLOCKS, LOG", says = "otherwise 12, and as many as lie from the highest one of these to the lowest one, both counted.")
    static void unlikeBitsFromOneTo32() {
        due(bitsOfValues(0, 1), 12 + 1);
        due(bitsOfValues(4, 5), 12 + 1);
        due(bitsOfValues(1, 5), 12 + 1);
        due(bitsOfValues(0, 524288), 12 + 1);
        due(bitsOfValues(1, 2), 12 + 2);
        due(bitsOfValues(0, 5), 12 + 3);
        due(bitsOfValues(0, 6), 12 + 2);
        due(bitsOfValues(0, 1000000), 12 + 14);
        due(bitsOfValues(0, -1), 12 + 32);
        due(bitsOfValues(-1, 0), 12 + 32);
        due(bitsOfValues(0, -2), 12 + 31);
        due(bitsOfValues(0, -1000000), 12 + 26);
        due(bitsOfValues(-1, -2), 12 + 1);
    }

    @Sentence(under = "BLOCKS, LOG", says = "STALE is the least int.")
    static void staleIsTheLeastInt() {
        due(STALE, -2147483648);
        due(bitsOfValues(0, STALE), 12 + 1);
        due(bitsOfValues(STALE, 0), 12 + 1);
        due(bitsOfValues(1, STALE), 12 + 32);
        due(bitsOfValues(STALE, 2), 12 + 31);
        due(bitsOfValues(STALE, -1), 12 + 31);
        due(bitsOfValues(STALE, 1000000), 12 + 26);
    }

    // ---- Promise 8 to 12

    @Sentence(under = "Promise 8", says = "times: 1 to 100000")
    static void retentionIs1To100000() {
        Ticksilo x = new Ticksilo();
        argumentsOutside(1, LAST, x::retain);
        due(x.retain(1), 1000);
        due(x.retain(2), 1);
        due(x.retain(99999), 2);
        due(x.retain(LAST), 99999);
        due(x.retain(7), LAST);
    }

    @Sentence(under = "Promise 8", says = "Sets retention.")
    static void theLeastAndTheGreatestRetention() {
        Ticksilo x = with(2000, 0, 0, 100, 1);
        x.retain(LAST);
        due(x.flush(), 2);
        due(x.samples(0), 2);
        x.write(0, 0, 0, 200, 1);
        for (int t = 300; t <= 1900; t += 100) x.write(0, 0, 0, t, 1);
        x.write(0, 0, 0, 1998, 1);
        x.write(0, 0, 0, 1999, 1);
        x.write(0, 0, 0, 2000, 1);
        x.retain(1);
        due(x.samples(0), 23);
        due(x.flush(), 2);
        due(x.samples(0), 2);
        due(told(x, 1998, AT, 0, 0), "");
        x.pass(1);
        due(x.flush(), 1);
        due(x.samples(0), 1);
        x.pass(1);
        due(x.flush(), 0);
    }

    @Sentence(under = "Promise 8", says = "Returns what it was.")
    static void retainReturnsWhatItWas() {
        Ticksilo x = new Ticksilo();
        due(x.retain(50), 1000);
        due(x.retain(50), 50);
        argument(() -> x.retain(0));
        due(x.retain(1000), 50);
    }

    @Sentence(under = "Promise 8", says = "Throws IllegalArgumentException if times is out of range")
    static void retainRefuses0And100001() {
        Ticksilo x = new Ticksilo();
        argument(() -> x.retain(0));
        argument(() -> x.retain(LAST + 1));
        argument(() -> x.retain(-1));
        due(x.retain(1), 1000);
    }

    @Sentence(under = "Promise 9", says = "Flushes; returns how many blocks there are then.")
    static void blocksFromNoneOn() {
        Ticksilo x = at(99);
        due(x.flush(), 0);
        for (int i = 0; i < 12; i++) {
            x.write(i % 6, i / 6, 6, 0, 0);
            due(x.flush(), i + 1);
        }
        due(x.flush(), 12);
        x.erase(0, 0, 0);
        due(x.flush(), 0);
        due(x.series(), 12);
        // As many as a label 0 can have samples.
        Ticksilo y = at(5999);
        y.retain(6000);
        for (int i = 0; i < 60; i++) y.write(0, 0, 0, 100 * i, i);
        due(y.write(0, 0, 0, 5999, 0), OVER);
        due(y.flush(), 60);
        for (int i = 0; i < 60; i++) due(y.bits(0, i), 64);
        index(() -> y.bits(0, 60));
    }

    @Sentence(under = "Promise 10", says = "Returns how many records the log has.")
    static void theLogFromEmptyOn() {
        Ticksilo x = new Ticksilo();
        due(x.log(), 0);
        x.write(0, 0, 0, 0, 0);
        due(x.log(), 1);
        for (int i = 0; i < 200; i++) x.erase(0, 0, 0);
        due(x.log(), 201);
        due(x.crash(200), 1);
        due(x.log(), 1);
        x.crash(1);
        due(x.log(), 0);
        x.erase(0, 0, 0);
        x.flush();
        due(x.log(), 0);
    }

    @Sentence(under = "Promise 11", says = "records: 0 to 1000: how many of the last ones are torn off, at most all")
    static void aCrashTears0To1000() {
        Ticksilo x = with(9, 1, 1, 2, 2, 3, 3);
        argumentsOutside(0, 1000, x::crash);
        due(x.crash(0), 3);
        due(x.samples(0), 3);
        due(x.crash(1), 2);
        due(x.crash(3), 0);
        due(x.crash(0), 0);
        due(x.crash(1000), 0);
        x.write(0, 0, 0, 1, 1);
        due(x.crash(999), 0);
        x.write(0, 0, 0, 1, 1);
        due(x.crash(1000), 0);
        due(x.samples(0), 0);
    }

    @Sentence(under = "Promise 11", says = "how many of the last ones are torn off, at most all")
    static void aCrashTearsOffThatManyOfALongLog() {
        Ticksilo x = new Ticksilo();
        // Rules write most of it: calls alone can't make a log of more than 512 records.
        draft(x, NUMBER, 5000, 0);
        x.record(0);
        draft(x, NUMBER, 5000, 0);
        x.record(1);
        draft(x, NUMBER, 5000, 0);
        x.record(2);
        draft(x, NUMBER, 5000, 0);
        x.record(3);
        for (int i = 0; i < 30; i++) {
            x.pass(100);
            x.erase(0, 0, LAST);
        }
        due(x.log(), 1230);
        due(x.crash(1000), 230);
        due(x.crash(229), 1);
        due(x.crash(1000), 0);
    }

    @Sentence(under = "Promise 11", says = "Returns how many are left.")
    static void aCrashReturnsHowManyAreLeft() {
        Ticksilo x = with(9, 1, 1, 2, 2);
        due(x.crash(0), 2);
        due(x.log(), 2);
        due(x.crash(1), 1);
        due(x.log(), 1);
        due(x.crash(5), 0);
        due(x.log(), 0);
    }

    @Sentence(under = "Promise 11", says = "Throws IllegalArgumentException if records is out of range")
    static void aCrashRefusesMinus1And1001() {
        Ticksilo x = with(9, 1, 1);
        argument(() -> x.crash(-1));
        argument(() -> x.crash(1001));
        due(x.log(), 1);
        due(x.samples(0), 1);
        Ticksilo empty = new Ticksilo();
        argument(() -> empty.crash(-1));
        argument(() -> empty.crash(1001));
    }

    @Sentence(under = "Promise 12", says = "Returns into how many bits a block is packed, with the samples that were in it when it was flushed.")
    static void bitsAreOfTheSamplesWhenFlushed() {
        Ticksilo x = with(60, 10, 1, 20, 1);
        index(() -> x.bits(0, 0));
        x.flush();
        due(x.bits(0, 0), 64 + 9 + 1);
        // What is written, erased and torn off later does not matter until the next flush.
        x.write(0, 0, 0, 30, 1);
        due(x.bits(0, 0), 74);
        x.erase(0, 0, 100);
        due(x.bits(0, 0), 74);
        x.crash(1);
        due(x.bits(0, 0), 74);
        x.flush();
        due(x.bits(0, 0), 74 + 2);
        x.retain(35);
        due(x.bits(0, 0), 76);
        x.flush();
        due(x.bits(0, 0), 64);
        x.erase(0, 30, 30);
        due(x.bits(0, 0), 64);
        x.flush();
        index(() -> x.bits(0, 0));
    }

    @Sentence(under = "Promise 12", says = "series: its number")
    static void bitsOfTheFirstAndTheLastSeries() {
        Ticksilo x = at(0);
        indexesOutside(0, -1, s -> x.bits(s, 0));
        for (int i = 0; i < 12; i++) x.write(i % 6, i / 6, 6, 0, 0);
        x.flush();
        due(x.bits(0, 0), 64);
        due(x.bits(11, 0), 64);
        indexesOutside(0, 11, s -> x.bits(s, 0));
    }

    @Sentence(under = "Promise 12", says = "hundred: 0 for the times 0 to 99, and so on")
    static void hundredsBeginAt0() {
        Ticksilo x = with(500, 99, 1, 100, 1, 199, 1, 200, 1, 300, 1, 400, 1, 499, 2);
        x.flush();
        due(x.bits(0, 0), 64);
        due(x.bits(0, 1), 64 + 12 + 1);
        due(x.bits(0, 2), 64);
        due(x.bits(0, 3), 64);
        due(x.bits(0, 4), 64 + 12 + 14);
        indexesOutside(0, 4, h -> x.bits(0, h));
    }

    @Sentence(under = "Promise 12", says = "Returns how many bits. Throws IndexOutOfBoundsException if there is no such series, or it has no such block")
    static void noBitsWithoutABlock() {
        Ticksilo x = with(300, 50, 1, 150, 1, 250, 1);
        put(x, 1, 150, 1);
        x.erase(0, 150, 150);
        x.flush();
        due(x.bits(0, 0), 64);
        due(x.bits(0, 2), 64);
        index(() -> x.bits(0, 1));
        index(() -> x.bits(1, 1));
        index(() -> x.bits(1, 0));
        index(() -> x.bits(2, 0));
        index(() -> x.bits(-1, 0));
        index(() -> x.bits(0, -1));
        index(() -> x.bits(0, 1000));
    }
}
