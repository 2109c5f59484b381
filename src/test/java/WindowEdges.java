/** Boundary cases of the words from AT to RATE, under ASKING. */
final class WindowEdges extends Due {
    // ---- AT

    @Sentence(under = "ASKING", says = "AT with a selector and an offset: of each selected series the latest sample that is seen, at t less the offset or ahead,")
    static void atTakesTheLatestAtTheTimeOrAhead() {
        Ticksilo x = with(100, 50, 5, 60, 6, 61, 7);
        due(told(x, 49, AT, 0, 0), "");
        due(told(x, 50, AT, 0, 0), "000=5000");
        due(told(x, 59, AT, 0, 0), "000=5000");
        due(told(x, 60, AT, 0, 0), "000=6000");
        due(told(x, 61, AT, 0, 0), "000=7000");
        due(told(x, 61, AT, 0, 1), "000=6000");
        due(told(x, 61, AT, 0, 2), "000=5000");
        due(told(x, 61, AT, 0, 11), "000=5000");
        due(told(x, 61, AT, 0, 12), "");
        due(told(x, 61, AT, 0, 1000), "");
        // Written late, it is the latest by its time nevertheless.
        x.write(0, 0, 0, 55, 9);
        due(told(x, 59, AT, 0, 0), "000=9000");
        due(told(x, 61, AT, 0, 0), "000=7000");
    }

    @Sentence(under = "ASKING", says = "of each selected series the latest sample that is seen")
    static void atTakesSelectedSeriesAndSeenSamples() {
        Ticksilo x = with(10, 5, 1, 6, 2);
        put(x, 1, 6, 3);
        x.select(1, ALL, ALL, 2);
        due(told(x, 6, AT, 1, 0), "001=3000");
        due(told(x, 6, AT, 0, 0), "000=2000 001=3000");
        x.erase(0, 6, 6);
        due(told(x, 6, AT, 0, 0), "000=1000");
        due(told(x, 6, AT, 1, 0), "");
        x.erase(0, 5, 5);
        due(told(x, 6, AT, 0, 0), "");
    }

    @Sentence(under = "ASKING", says = "not more than 50 ahead of that,")
    static void atReaches50() {
        Ticksilo x = with(100, 0, 7, 100, 8);
        due(told(x, 50, AT, 0, 0), "000=7000");
        due(told(x, 51, AT, 0, 0), "");
        due(told(x, 1050, AT, 0, 1000), "000=7000");
        due(told(x, 1051, AT, 0, 1000), "");
        due(told(x, 1000, AT, 0, 1000), "000=7000");
        due(told(x, 999, AT, 0, 1000), "");
        due(told(x, 150, AT, 0, 0), "000=8000");
        due(told(x, 151, AT, 0, 0), "");
        due(told(x, 151, AT, 0, 1), "000=8000");
    }

    @Sentence(under = "ASKING", says = "unless it is STALE.")
    static void atTellsNothingIfTheLatestIsStale() {
        Ticksilo x = with(20, 10, 5, 11, STALE, 13, 6);
        due(told(x, 10, AT, 0, 0), "000=5000");
        due(told(x, 11, AT, 0, 0), "");
        due(told(x, 12, AT, 0, 0), "");
        due(told(x, 13, AT, 0, 0), "000=6000");
        x.erase(0, 11, 11);
        due(told(x, 12, AT, 0, 0), "000=5000");
    }

    // ---- windows

    @Sentence(under = "ASKING", says = "COUNT, TOTAL, LEAST, GREATEST, SMOOTH, RATE with a selector and a window w: of each selected series, by its samples that are seen and not STALE, of times above t less w, up to t, if there are any:")
    static void windowsEndAtTheTimeAndBeginAboveTimeLessW() {
        Ticksilo x = with(40, 10, 1, 20, 10, 30, 100);
        int[] words = {COUNT, TOTAL, LEAST, GREATEST, SMOOTH};
        String[] last = {"1000", "100000", "100000", "100000", "100000"};
        String[] two = {"2000", "110000", "10000", "100000", "55000"};
        String[] first = {"1000", "1000", "1000", "1000", "1000"};
        for (int i = 0; i < words.length; i++) {
            due(told(x, 30, words[i], 0, 10), "000=" + last[i]);
            due(told(x, 30, words[i], 0, 11), "000=" + two[i]);
            due(told(x, 30, words[i], 0, 20), "000=" + two[i]);
            due(told(x, 30, words[i], 0, 1), "000=" + last[i]);
            due(told(x, 31, words[i], 0, 1), "");
            due(told(x, 29, words[i], 0, 9), "");
            due(told(x, 10, words[i], 0, 1000), "000=" + first[i]);
            due(told(x, 9, words[i], 0, 1000), "");
            due(told(x, 1010, words[i], 0, 980), "");
            due(told(x, 1029, words[i], 0, 1000), "000=" + last[i]);
            due(told(x, 1030, words[i], 0, 1000), "");
        }
        due(told(x, 30, COUNT, 0, 21), "000=3000");
    }

    @Sentence(under = "ASKING", says = "by its samples that are seen and not STALE")
    static void windowsLeaveOutStaleAndErasedSamples() {
        Ticksilo x = with(50, 10, STALE, 20, 4, 30, STALE, 40, 6, 50, 900);
        x.erase(0, 50, 50);
        due(told(x, 50, COUNT, 0, 50), "000=2000");
        due(told(x, 50, TOTAL, 0, 50), "000=10000");
        due(told(x, 50, LEAST, 0, 50), "000=4000");
        due(told(x, 50, GREATEST, 0, 50), "000=6000");
        due(told(x, 50, SMOOTH, 0, 50), "000=5000");
        // A rise of 2 over 20, longer by 10 at each end, in 50.
        due(told(x, 50, RATE, 0, 50), "000=" + 1000 * 2 * 40 / (20 * 50));
    }

    @Sentence(under = "ASKING", says = "if there are any:")
    static void windowsWithoutSamplesTellNothing() {
        Ticksilo x = with(50, 10, STALE, 20, 1);
        put(x, 1, 10, STALE);
        put(x, 2, 20, 2);
        x.erase(0, 20, 20);
        for (int what = COUNT; what <= RATE; what++) due(told(x, 50, what, 0, 1000), "");
        x.crash(1);
        for (int what = COUNT; what <= GREATEST; what++) {
            due(told(x, 50, what, 0, 1000), what == COUNT ? "000=1000 002=1000" : "000=1000 002=2000");
        }
        for (int what = COUNT; what <= RATE; what++) due(told(new Ticksilo(), 0, what, 0, 1), "");
    }

    @Sentence(under = "ASKING", says = "how many;")
    static void countUpTo60() {
        Ticksilo x = at(100);
        for (int i = 0; i < 60; i++) x.write(0, 0, 0, i, i);
        due(told(x, 100, COUNT, 0, 1000), "000=60000");
        due(told(x, 59, COUNT, 0, 59), "000=59000");
        due(told(x, 0, COUNT, 0, 1), "000=1000");
    }

    @Sentence(under = "ASKING", says = "their sum;")
    static void totalOf60OfTheGreatest() {
        Ticksilo x = at(100);
        for (int i = 0; i < 60; i++) {
            x.write(0, 0, 0, i, 1000000);
            x.write(1, 0, 0, i, -1000000);
        }
        due(told(x, 100, TOTAL, 0, 1000), "000=60000000000 100=-60000000000");
        due(told(with(2, 0, 5, 1, -5), 2, TOTAL, 0, 9), "000=0");
    }

    @Sentence(under = "ASKING", says = "the least;")
    static void leastOfValuesAtTheirBounds() {
        due(told(with(2, 0, 1000000, 1, 999999), 2, LEAST, 0, 9), "000=999999000");
        due(told(with(2, 0, -1000000, 1, -999999), 2, LEAST, 0, 9), "000=-1000000000");
        due(told(with(2, 0, 1, 1, 0, 2, 1), 2, LEAST, 0, 9), "000=0");
        due(told(with(2, 0, -3), 2, LEAST, 0, 9), "000=-3000");
    }

    @Sentence(under = "ASKING", says = "the greatest;")
    static void greatestOfValuesAtTheirBounds() {
        due(told(with(2, 0, 999999, 1, 1000000), 2, GREATEST, 0, 9), "000=1000000000");
        due(told(with(2, 0, -999999, 1, -1000000), 2, GREATEST, 0, 9), "000=-999999000");
        due(told(with(2, 0, -1, 1, 0, 2, -1), 2, GREATEST, 0, 9), "000=0");
        due(told(with(2, 0, -3), 2, GREATEST, 0, 9), "000=-3000");
    }

    @Sentence(under = "ASKING", says = "SMOOTH begins with the first one and comes nearer to each later one by half of the difference, rounded toward 0, of thousandths.")
    static void smoothRoundsHalfOfTheDifferenceToward0() {
        due(told(with(9, 0, -1000000), 9, SMOOTH, 0, 10), "000=-1000000000");
        due(told(with(9, 0, 1000000, 1, -1000000), 9, SMOOTH, 0, 10), "000=0");
        due(told(with(9, 0, -1000000, 1, 1000000, 2, 1000000), 9, SMOOTH, 0, 10), "000=500000000");
        // From 1000 to 0: 500, 250, 125, 63, 32, 16; from 0 to 1000: 500, 750, 875, 937, 968, 984.
        int[] falling = {1000, 500, 250, 125, 63, 32, 16};
        int[] rising = {0, 500, 750, 875, 937, 968, 984};
        Ticksilo x = with(9, 0, 1, 1, 0, 2, 0, 3, 0, 4, 0, 5, 0, 6, 0);
        Ticksilo y = with(9, 0, 0, 1, 1, 2, 1, 3, 1, 4, 1, 5, 1, 6, 1);
        Ticksilo z = with(9, 0, -1, 1, 0, 2, 0, 3, 0, 4, 0, 5, 0, 6, 0);
        for (int t = 0; t <= 6; t++) {
            due(told(x, t, SMOOTH, 0, 10), "000=" + falling[t]);
            due(told(y, t, SMOOTH, 0, 10), "000=" + rising[t]);
            due(told(z, t, SMOOTH, 0, 10), "000=" + -falling[t]);
        }
    }

    @Sentence(under = "ASKING", says = "rounded toward 0, of thousandths.")
    static void smoothStopsAThousandthAway() {
        Ticksilo x = at(20);
        for (int t = 0; t <= 15; t++) x.write(0, 0, 0, t, t == 0 ? 1 : 0);
        int[] due = {1000, 500, 250, 125, 63, 32, 16, 8, 4, 2, 1, 1, 1};
        for (int t = 0; t < due.length; t++) due(told(x, t, SMOOTH, 0, 20), "000=" + due[t]);
    }

    // ---- RATE

    @Sentence(under = "ASKING", says = "RATE, if there are two or more, with the distance d of the last from the first:")
    static void rateNeedsTwo() {
        Ticksilo x = with(30, 10, 1, 20, 2, 25, STALE);
        due(told(x, 30, RATE, 0, 20), "");
        due(told(x, 30, RATE, 0, 10), "");
        due(told(x, 30, RATE, 0, 5), "");
        // A rise of 1; 10 longer by 1 and by 5, in 21.
        due(told(x, 30, RATE, 0, 21), "000=" + 1000 * 16 / (10 * 21));
        x.write(0, 0, 0, 30, 3);
        // A rise of 1; 10 longer by 5, in 15: the reach is 5, the first one 5 above the begin.
        due(told(x, 30, RATE, 0, 15), "000=" + 1000 * 15 / (10 * 15));
        // The nearest that two can be: side by side in a window of 2.
        due(told(with(1, 0, 0, 1, 7), 1, RATE, 0, 2), "000=3500");
        due(told(with(1, 0, 0, 1, 7), 1, RATE, 0, 1), "");
    }

    @Sentence(under = "ASKING", says = "with the distance d of the last from the first:")
    static void ratesOverTheWidestWindow() {
        Ticksilo x = at(1000);
        for (int t = 1; t < 1000; t += 50) x.write(0, 0, 0, t, -1000000);
        x.write(0, 0, 0, 1000, 1000000);
        // 21 of them: the reach is 999 / 20 / 2 = 24; the first one is 1 above the begin: e is 1000.
        due(told(x, 1000, RATE, 0, 1000), "000=" + 1000L * 2000000 * 1000 / (999 * 1000));
        due(told(x, 1024, RATE, 0, 1000), "000=" + 1000L * 2000000 * (949 + 24 + 24) / (949 * 1000));
    }

    /** What the rate of values at the times 10, 20, .. is, in a window of just their times. */
    private static String rateOf(int... values) {
        Ticksilo x = at(100);
        for (int i = 0; i < values.length; i++) x.write(0, 0, 0, 10 * i + 10, values[i]);
        int length = 10 * (values.length - 1);
        return told(x, length + 10, RATE, 0, length + 1);
    }

    @Sentence(under = "ASKING", says = "the increase is the sum of all rises from one to the next one;")
    static void theIncreaseSumsTheRises() {
        // Two make e 11, of 10 times 11: 100 thousandths for each 1.
        due(rateOf(3, 4), "000=100");
        due(rateOf(3, 3), "000=0");
        due(rateOf(-1, 0), "000=100");
        due(rateOf(-3, -1), "000=200");
        due(rateOf(-1000000, 1000000), "000=200000000");
        // Three make e 21, of 20 times 21: 50 thousandths for each 1.
        due(rateOf(0, 1, 3), "000=150");
        due(rateOf(0, 1, 1), "000=50");
        due(rateOf(0, 0, 1), "000=50");
    }

    @Sentence(under = "ASKING", says = "where one is less than the one ahead, its value itself, if that is above 0.")
    static void aResetCountsTheValueItselfIfAbove0() {
        due(rateOf(9, 8), "000=800");
        due(rateOf(9, 1), "000=100");
        due(rateOf(9, 0), "000=0");
        due(rateOf(9, -1), "000=0");
        due(rateOf(0, -1), "000=0");
        due(rateOf(-1, -2), "000=0");
        due(rateOf(1000000, 999999), "000=99999900");
        // A reset to 2, and 3 more.
        due(rateOf(9, 2, 5), "000=250");
        // To -2, and 7 more.
        due(rateOf(9, -2, 5), "000=350");
        due(rateOf(9, 8, 7), "000=750");
        due(rateOf(0, 9, 0), "000=450");
    }

    /** The rate of a rise of 10 from the time 20 to 30, for a window that begins and ends some times away. */
    private static String rateAway(int begin, int end) {
        return told(with(100, 20, 0, 30, 10), 30 + end, RATE, 0, 10 + begin + end);
    }

    @Sentence(under = "ASKING", says = "Half of d by how many there are less 1, both rounded down, is the reach;")
    static void theReachIsRoundedDown() {
        // Wide windows make e longer by twice the reach: 2 is the rise, the window 100.
        int[][] times = {{20, 30}, {20, 31}, {20, 25, 30}, {20, 25, 31}, {20, 24, 27}, {20, 21, 22, 23}, {20, 21}, {20, 22}};
        int[] reach = {5, 5, 2, 2, 1, 0, 0, 1};
        for (int i = 0; i < times.length; i++) {
            Ticksilo x = at(100);
            int last = times[i].length - 1;
            for (int k = 0; k <= last; k++) x.write(0, 0, 0, times[i][k], k == last ? 2 : 0);
            int d = times[i][last] - 20;
            due(told(x, 100, RATE, 0, 100), "000=" + 1000 * 2 * (d + 2 * reach[i]) / (d * 100));
        }
    }

    @Sentence(under = "ASKING", says = "the distances from t less w to the first one, and from the last one to t, each at most the reach, make d longer to e.")
    static void theEndsAreAtMostTheReachAway() {
        due(rateAway(1, 0), "000=1000");
        due(rateAway(1, 4), "000=1000");
        due(rateAway(1, 5), "000=1000");
        // Beyond the reach of 5 the window grows, but e does not: 16 of 17.
        due(rateAway(1, 6), "000=941");
        due(rateAway(4, 5), "000=1000");
        due(rateAway(5, 5), "000=1000");
        due(rateAway(6, 5), "000=952");
        due(rateAway(6, 0), "000=937");
        due(rateAway(6, 6), "000=909");
    }

    @Sentence(under = "ASKING", says = "The rate is 1000 times the increase, times e, divided by d times w, rounded down.")
    static void theRateIsRoundedDown() {
        // Of three side by side the reach is 0: 2000 by 2 times 3.
        due(told(with(2, 0, 0, 1, 0, 2, 1), 2, RATE, 0, 3), "000=333");
        // With e as long as w: thirds.
        due(told(with(3, 0, 0, 3, 1), 3, RATE, 0, 4), "000=333");
        due(told(with(3, 0, 0, 3, 2), 3, RATE, 0, 4), "000=666");
        due(told(with(3, 0, 0, 3, 3), 3, RATE, 0, 4), "000=1000");
        // 9 longer by 4 and by 1: 5000 times 14 by 180 is 388 and eight ninths.
        due(told(with(12, 1, 0, 10, 5), 11, RATE, 0, 20), "000=388");
    }
}
