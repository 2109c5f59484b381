/** Boundary cases of LEVELS, COPY and of the promises 27 to 31. */
final class CopyEdges extends Due {
    /** How many, sum, least and greatest of a span. */
    private static String span(Ticksilo x, int level, int span) {
        return x.thinned(0, level, span, 0) + " " + x.thinned(0, level, span, 1) + " "
            + x.thinned(0, level, span, 2) + " " + x.thinned(0, level, span, 3);
    }

    // ---- LEVELS, COPY

    @Sentence(under = "LEVELS, COPY", says = "The levels 10 and 100 thin the samples of a series that are seen, and not STALE, by spans of as many times:")
    static void spansBeginAtMultiplesOfTheirLevel() {
        Ticksilo x = with(300, 99, 1, 100, 2, 109, 4, 110, 8, 199, 16, 200, 32);
        due(span(x, 10, 9), "1 1 1 1");
        due(span(x, 10, 10), "2 6 2 4");
        due(span(x, 10, 11), "1 8 8 8");
        due(span(x, 10, 12), "0 0 0 0");
        due(span(x, 10, 18), "0 0 0 0");
        due(span(x, 10, 19), "1 16 16 16");
        due(span(x, 10, 20), "1 32 32 32");
        due(span(x, 100, 0), "1 1 1 1");
        due(span(x, 100, 1), "4 30 2 16");
        due(span(x, 100, 2), "1 32 32 32");
        due(span(x, 100, 3), "0 0 0 0");
    }

    @Sentence(under = "LEVELS, COPY", says = "that are seen, and not STALE")
    static void spansLeaveOutErasedAndStaleSamples() {
        Ticksilo x = with(9, 0, -5, 3, STALE, 5, 7, 9, 100);
        due(span(x, 10, 0), "3 102 -5 100");
        due(span(x, 100, 0), "3 102 -5 100");
        x.erase(0, 9, 9);
        due(span(x, 10, 0), "2 2 -5 7");
        x.erase(0, 5, 5);
        due(span(x, 10, 0), "1 -5 -5 -5");
        x.erase(0, 0, 0);
        // Just the STALE one is left.
        due(span(x, 10, 0), "0 0 0 0");
        due(span(x, 100, 0), "0 0 0 0");
        x.crash(1);
        due(span(x, 10, 0), "1 -5 -5 -5");
    }

    @Sentence(under = "LEVELS, COPY", says = "how many, sum, least, greatest.")
    static void spansOfValuesAtTheirBounds() {
        Ticksilo x = at(99);
        for (int t = 0; t < 60; t++) x.write(0, 0, 0, t, 1000000);
        due(span(x, 100, 0), "60 60000000 1000000 1000000");
        due(span(x, 10, 5), "10 10000000 1000000 1000000");
        Ticksilo y = at(99);
        for (int t = 0; t < 60; t++) y.write(0, 0, 0, t, -1000000);
        due(span(y, 100, 0), "60 -60000000 -1000000 -1000000");
        due(span(with(9, 0, -1000000, 9, 1000000), 10, 0), "2 0 -1000000 1000000");
        due(span(with(9, 4, 0), 10, 0), "1 0 0 0");
    }

    @Sentence(under = "LEVELS, COPY", says = "Each sample that is GOOD is written to the copy, too, unless that is down.")
    static void justGoodSamplesAreWrittenToTheCopy() {
        Ticksilo x = at(300);
        x.write(0, 0, 0, 300, 1);
        due(x.behind(), 0);
        x.down(true);
        x.write(0, 0, 0, 300, 1);
        x.write(0, 0, 0, 300, 2);
        x.write(0, 0, 0, 199, 2);
        due(x.behind(), 0);
        x.write(0, 0, 0, 299, STALE);
        due(x.behind(), 1);
        // Up again, it still lacks what it missed, and gets what is written from then on.
        x.down(false);
        due(x.behind(), 1);
        x.write(0, 0, 0, 299, STALE);
        due(x.behind(), 1);
        x.write(0, 0, 0, 298, 1);
        due(x.behind(), 1);
        x.down(true);
        x.write(0, 0, 0, 297, 1);
        due(x.behind(), 2);
    }

    @Sentence(under = "LEVELS, COPY", says = "Each sample that is GOOD is written to the copy")
    static void whatRulesWriteIsWrittenToTheCopy() {
        Ticksilo x = new Ticksilo();
        draft(x, NUMBER, 1000, 0);
        x.record(0);
        x.pass(10);
        due(x.behind(), 0);
        x.down(true);
        x.pass(20);
        due(x.behind(), 2);
        x.down(false);
        x.pass(10);
        due(x.behind(), 2);
        due(x.mend(1), 1);
        due(x.behind(), 1);
    }

    @Sentence(under = "LEVELS, COPY", says = "To mend it is to write, of the samples that are seen, and that it has not, those that were written first, in the order in which they were written, as many as are told.")
    static void thoseThatWereWrittenFirstAreMendedFirst() {
        Ticksilo x = at(50);
        x.down(true);
        int[] times = {40, 10, 50, 20, 30};
        for (int i = 0; i < 5; i++) x.write(0, 0, i % 2, times[i], i);
        due(x.behind(), 5);
        due(x.mend(2), 2);
        // 40 and 10 are there: to erase them leaves as many behind, to erase others doesn't.
        due(x.erase(0, 40, 40), 1);
        due(x.behind(), 3);
        due(x.erase(0, 10, 10), 1);
        due(x.behind(), 3);
        due(x.mend(1), 1);
        due(x.erase(0, 50, 50), 1);
        due(x.behind(), 2);
        due(x.erase(0, 30, 30), 1);
        due(x.behind(), 1);
        x.crash(1);
        due(x.behind(), 2);
        due(x.mend(1), 1);
        due(x.erase(0, 20, 20), 1);
        due(x.behind(), 1);
        due(x.mend(2), 1);
        due(x.behind(), 0);
    }

    @Sentence(under = "LEVELS, COPY", says = "of the samples that are seen, and that it has not")
    static void whatIsErasedIsNotMended() {
        Ticksilo x = at(50);
        x.down(true);
        for (int t = 0; t < 5; t++) x.write(0, 0, 0, t, t);
        x.erase(0, 1, 3);
        due(x.behind(), 2);
        due(x.mend(1000), 2);
        due(x.behind(), 0);
        // Seen again, the three are still missing.
        x.crash(1);
        due(x.behind(), 3);
        due(x.mend(2), 2);
        due(x.behind(), 1);
        x.crash(1);
        x.crash(1);
        due(x.samples(0), 3);
        due(x.behind(), 0);
        due(x.mend(1), 0);
    }

    @Sentence(under = "LEVELS, COPY", says = "of the samples that are seen, and that it has not")
    static void whatIsTooOldIsNotMended() {
        Ticksilo x = with(100, 10, 1);
        x.down(true);
        x.write(0, 0, 0, 20, 1);
        x.write(0, 0, 0, 90, 1);
        due(x.behind(), 2);
        x.retain(50);
        due(x.behind(), 2);
        x.flush();
        due(x.behind(), 1);
        due(x.mend(1000), 1);
        due(x.behind(), 0);
    }

    // ---- Promise 27

    @Sentence(under = "Promise 27", says = "Tells something of a span of a series. series: its number")
    static void spansOfTheFirstAndTheLastSeries() {
        Ticksilo x = new Ticksilo();
        indexesOutside(0, -1, s -> x.thinned(s, 10, 0, 0));
        for (int i = 0; i < 12; i++) {
            x.write(i % 6, i / 6, 6, 0, i + 1);
            due(x.thinned(i, 10, 0, 1), i + 1);
        }
        due(x.thinned(0, 100, 0, 1), 1);
        indexesOutside(0, 11, s -> x.thinned(s, 10, 0, 0));
    }

    @Sentence(under = "Promise 27", says = "level: 10 or 100")
    static void thinnedTakesTheLevels10And100() {
        Ticksilo x = of(0, 7);
        due(x.thinned(0, 10, 0, 1), 7);
        due(x.thinned(0, 100, 0, 1), 7);
        argumentsOutside(10, 10, level -> x.thinned(0, level, 0, 0));
        argumentsOutside(100, 100, level -> x.thinned(0, level, 0, 0));
        int[] levels = {0, 1, -10, -100, 50, 1000};
        for (int level : levels) argument(() -> x.thinned(0, level, 0, 0));
    }

    @Sentence(under = "Promise 27", says = "span: 0 to 10000: 0 for the first one")
    static void spansAre0To10000() {
        Ticksilo x = with(100, 0, 1, 9, 2, 10, 4, 99, 8, 100, 16);
        due(x.thinned(0, 10, 0, 1), 3);
        due(x.thinned(0, 10, 1, 1), 4);
        due(x.thinned(0, 100, 0, 1), 15);
        due(x.thinned(0, 100, 1, 1), 16);
        due(x.thinned(0, 10, 9999, 0), 0);
        due(x.thinned(0, 10, 10000, 0), 0);
        due(x.thinned(0, 100, 10000, 3), 0);
        argumentsOutside(0, 10000, span -> x.thinned(0, 10, span, 0));
        argumentsOutside(0, 10000, span -> x.thinned(0, 100, span, 0));
        // The last time lies in the span 10000 of the level 10, and in 1000 of 100.
        Ticksilo y = at(LAST);
        y.write(0, 0, 0, LAST, 5);
        y.write(0, 0, 0, LAST - 1, 3);
        due(span(y, 10, 10000), "1 5 5 5");
        due(span(y, 10, 9999), "1 3 3 3");
        due(span(y, 100, 1000), "1 5 5 5");
        due(span(y, 100, 999), "1 3 3 3");
        due(span(y, 100, 1001), "0 0 0 0");
    }

    @Sentence(under = "Promise 27", says = "what: 0 how many; 1 the sum; 2 the least; 3 the greatest")
    static void whatASpanTells() {
        Ticksilo x = with(9, 0, -7, 5, 4, 9, 1);
        int[] due = {3, -2, -7, 4};
        for (int what = 0; what <= 3; what++) {
            due(x.thinned(0, 10, 0, what), due[what]);
            due(x.thinned(0, 100, 0, what), due[what]);
        }
        argumentsOutside(0, 3, what -> x.thinned(0, 10, 0, what));
    }

    @Sentence(under = "Promise 27", says = "Returns the number; 0 for all without samples.")
    static void spansWithoutSamples() {
        Ticksilo x = with(100, 10, 5);
        due(span(x, 10, 0), "0 0 0 0");
        due(span(x, 10, 1), "1 5 5 5");
        due(span(x, 10, 2), "0 0 0 0");
        due(span(x, 100, 1), "0 0 0 0");
        x.crash(1);
        due(span(x, 10, 1), "0 0 0 0");
        // What an earlier call has told of another span leaves nothing behind.
        x.write(0, 0, 0, 30, -4);
        due(span(x, 10, 3), "1 -4 -4 -4");
        due(span(x, 10, 4), "0 0 0 0");
    }

    @Sentence(under = "Promise 27", says = "Throws IndexOutOfBoundsException if there is no such series")
    static void noSpansOfNoSeries() {
        Ticksilo none = new Ticksilo();
        index(() -> none.thinned(0, 10, 0, 0));
        Ticksilo x = of(0, 7);
        index(() -> x.thinned(1, 10, 0, 0));
        index(() -> x.thinned(-1, 10, 0, 0));
        due(x.thinned(0, 10, 0, 0), 1);
    }

    @Sentence(under = "Promise 27", says = "Throws IllegalArgumentException if level, span or what is out of range")
    static void thinnedRefusesWhatIsOutOfRange() {
        Ticksilo x = of(0, 7);
        argument(() -> x.thinned(0, 11, 0, 0));
        argument(() -> x.thinned(0, 10, -1, 0));
        argument(() -> x.thinned(0, 100, 10001, 0));
        argument(() -> x.thinned(0, 10, 0, -1));
        argument(() -> x.thinned(0, 10, 0, 4));
    }

    // ---- Promise 28

    private static void suited(Ticksilo x, int level, int time, int window, boolean due) {
        due(x.suits(level, time, window), due);
    }

    @Sentence(under = "Promise 28", says = "Returns whether spans of a level can tell COUNT, TOTAL, LEAST and GREATEST for a time and a window: whether the times of the window are whole spans.")
    static void windowsOfWholeSpansSuit() {
        Ticksilo x = new Ticksilo();
        // The times of a window of 10 at 19 are 10 to 19.
        suited(x, 10, 19, 10, true);
        suited(x, 10, 19, 9, false);
        suited(x, 10, 19, 11, false);
        suited(x, 10, 18, 10, false);
        suited(x, 10, 20, 10, false);
        suited(x, 10, 18, 9, false);
        suited(x, 10, 20, 11, false);
        suited(x, 10, 20, 20, false);
        suited(x, 10, 19, 20, true);
        suited(x, 100, 199, 100, true);
        suited(x, 100, 199, 99, false);
        suited(x, 100, 199, 101, false);
        suited(x, 100, 198, 100, false);
        suited(x, 100, 200, 100, false);
        suited(x, 100, 199, 200, true);
        suited(x, 100, 199, 110, false);
        suited(x, 100, 209, 100, false);
        suited(x, 10, 209, 100, true);
        suited(x, 10, 199, 110, true);
    }

    @Sentence(under = "Promise 28", says = "whether the times of the window are whole spans.")
    static void spansThatSuitTellWhatWindowsTell() {
        Ticksilo x = with(40, 19, 1, 20, -2, 25, 4, 29, 8, 30, 16);
        int[] words = {COUNT, TOTAL, LEAST, GREATEST};
        suited(x, 10, 29, 10, true);
        for (int what = 0; what < 4; what++) {
            due(told(x, 29, words[what], 0, 10), "000=" + 1000 * x.thinned(0, 10, 2, what));
        }
    }

    @Sentence(under = "Promise 28", says = "level: 10 or 100")
    static void suitsTakesTheLevels10And100() {
        Ticksilo x = new Ticksilo();
        suited(x, 10, 99, 100, true);
        suited(x, 100, 99, 100, true);
        argumentsOutside(10, 10, level -> x.suits(level, 99, 100) ? 1 : 0);
        argumentsOutside(100, 100, level -> x.suits(level, 99, 100) ? 1 : 0);
        int[] levels = {0, 1, -10, -100, 50, 1000};
        for (int level : levels) argument(() -> x.suits(level, 99, 100) ? 1 : 0);
    }

    @Sentence(under = "Promise 28", says = "time: 0 to 100000")
    static void suitsTakesTimes0To100000() {
        Ticksilo x = new Ticksilo();
        suited(x, 10, 0, 1, false);
        suited(x, 10, 0, 10, false);
        suited(x, 10, 9, 10, true);
        suited(x, 10, LAST, 10, false);
        suited(x, 10, LAST - 1, 10, true);
        suited(x, 100, LAST - 1, 100, true);
        argumentsOutside(0, LAST, time -> x.suits(10, time, 10) ? 1 : 0);
        argumentsOutside(0, LAST, time -> x.suits(100, time, 100) ? 1 : 0);
    }

    @Sentence(under = "Promise 28", says = "window: 1 to 1000")
    static void suitsTakesWindows1To1000() {
        Ticksilo x = new Ticksilo();
        suited(x, 10, 999, 1, false);
        suited(x, 10, 999, 990, true);
        suited(x, 10, 999, 999, false);
        suited(x, 10, 999, 1000, true);
        suited(x, 100, 999, 1000, true);
        argumentsOutside(1, 1000, window -> x.suits(10, 999, window) ? 1 : 0);
        argumentsOutside(1, 1000, window -> x.suits(100, 999, window) ? 1 : 0);
    }

    @Sentence(under = "Promise 28", says = "Returns whether they can. Throws IllegalArgumentException if level, time or window is out of range")
    static void suitsRefusesWhatIsOutOfRange() {
        Ticksilo x = new Ticksilo();
        argument(() -> x.suits(20, 99, 100) ? 1 : 0);
        argument(() -> x.suits(10, -1, 100) ? 1 : 0);
        argument(() -> x.suits(10, LAST + 1, 100) ? 1 : 0);
        argument(() -> x.suits(10, 99, 0) ? 1 : 0);
        argument(() -> x.suits(10, 99, 1001) ? 1 : 0);
        suited(x, 10, 99, 100, true);
    }

    // ---- Promise 29 to 31

    @Sentence(under = "Promise 29", says = "Sets whether the copy is down. down: whether it is")
    static void theCopyIsUpAtFirst() {
        Ticksilo x = of(0, 1);
        due(x.behind(), 0);
        x.down(false);
        put(x, 1, 0, 1);
        due(x.behind(), 0);
        x.down(true);
        put(x, 2, 0, 1);
        due(x.behind(), 1);
        x.down(true);
        put(x, 3, 0, 1);
        due(x.behind(), 2);
    }

    @Sentence(under = "Promise 29", says = "Returns whether it was.")
    static void downReturnsWhetherItWas() {
        Ticksilo x = new Ticksilo();
        due(x.down(false), false);
        due(x.down(true), false);
        due(x.down(true), true);
        due(x.down(false), true);
        due(x.down(false), false);
    }

    @Sentence(under = "Promise 30", says = "Returns how many samples that are seen the copy does not have.")
    static void behindFromNoneTo60() {
        Ticksilo x = at(100);
        due(x.behind(), 0);
        x.down(true);
        due(x.behind(), 0);
        for (int i = 0; i < 60; i++) {
            x.write(0, 0, 0, i, i);
            due(x.behind(), i + 1);
        }
        x.write(0, 0, 0, 60, 60);
        due(x.behind(), 60);
        x.erase(0, 0, 9);
        due(x.behind(), 50);
        x.crash(1);
        due(x.behind(), 60);
        x.crash(10);
        due(x.behind(), 50);
        x.crash(1000);
        due(x.behind(), 0);
        // One written again is another one, which the copy has.
        x.down(false);
        x.write(0, 0, 0, 0, 0);
        due(x.behind(), 0);
    }

    @Sentence(under = "Promise 31", says = "Mends the copy, also if it is down.")
    static void itIsMendedAlsoIfItIsDown() {
        Ticksilo x = new Ticksilo();
        x.down(true);
        put(x, 0, 0, 1);
        put(x, 1, 0, 1);
        due(x.mend(1), 1);
        due(x.behind(), 1);
        // It stays down.
        put(x, 2, 0, 1);
        due(x.behind(), 2);
        x.down(false);
        due(x.mend(1), 1);
        due(x.behind(), 1);
        due(x.down(false), false);
    }

    @Sentence(under = "Promise 31", says = "many: 1 to 1000")
    static void itIsMendedBy1To1000() {
        Ticksilo x = at(60);
        argumentsOutside(1, 1000, x::mend);
        due(x.mend(1), 0);
        due(x.mend(1000), 0);
        x.down(true);
        for (int i = 0; i < 60; i++) x.write(0, 0, 0, i, i);
        argumentsOutside(1, 1000, x::mend);
        due(x.mend(1), 1);
        due(x.behind(), 59);
        due(x.mend(1000), 59);
        due(x.behind(), 0);
    }

    @Sentence(under = "Promise 31", says = "Returns how many samples it gets.")
    static void mendReturnsAtMostWhatIsBehind() {
        Ticksilo x = new Ticksilo();
        due(x.mend(5), 0);
        x.down(true);
        for (int i = 0; i < 4; i++) put(x, i, 0, i);
        due(x.mend(3), 3);
        due(x.mend(3), 1);
        due(x.mend(3), 0);
        for (int i = 10; i < 13; i++) put(x, i, 0, i);
        due(x.mend(3), 3);
        due(x.mend(1), 0);
    }

    @Sentence(under = "Promise 31", says = "Throws IllegalArgumentException if many is out of range")
    static void mendRefuses0And1001() {
        Ticksilo x = new Ticksilo();
        x.down(true);
        put(x, 0, 0, 1);
        argument(() -> x.mend(0));
        argument(() -> x.mend(1001));
        argument(() -> x.mend(-1));
        due(x.behind(), 1);
    }
}
