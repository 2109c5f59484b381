/** Boundary cases of SERIES, SAMPLES and of the promises 1 to 7. */
final class SamplesEdges extends Due {
    // ---- What it is

    @Sentence(under = "What it is", says = "An object is used for at most 512 calls after it has been made")
    static void timeGoesOnUpToThe512thCall() {
        Ticksilo x = new Ticksilo();
        for (int i = 1; i <= 512; i++) due(x.pass(100), 100 * i);
    }

    @Sentence(under = "What it is", says = "at most 512 calls")
    static void rulesAndAlertsGoOnUpToThe512thCall() {
        Ticksilo x = new Ticksilo();
        x.word(NUMBER, 7000, 0);
        x.record(0);
        draft(x, COUNT, 0, 10);
        x.alert(0, 0);
        for (int call = 6; call < 512; call++) due(x.pass(100), 100 * (call - 5));
        due(x.samples(0), 60);
    }

    @Sentence(under = "What it is", says = "512 calls after it has been made")
    static void samplesAreTakenUpToThe512thCall() {
        Ticksilo x = at(59);
        for (int i = 0; i < 420; i++) due(x.write(i / 60, 0, 0, i % 60, i), GOOD);
        for (int call = 422; call <= 512; call++) due(x.write(call % 7, 1, 0, 59, 0), OVER);
    }

    // ---- SERIES, SAMPLES

    @Sentence(under = "SERIES, SAMPLES", says = "A series is named by three labels, 0, 1 and 2, each with a value, 0 to 5, or without, told as 6.")
    static void seriesDifferByEachLabel() {
        Ticksilo x = of(0, 1, 5, 2, 6, 3, 50, 4, 60, 5, 500, 6, 600, 7, 555, 8, 666, 9);
        due(x.series(), 9);
        due(told(x, 0, AT, 0, 0),
            "000=1000 005=2000 006=3000 050=4000 060=5000 500=6000 555=8000 600=7000 666=9000");
    }

    @Sentence(under = "SERIES, SAMPLES", says = "Series are numbered as they have come up first, at most 12.")
    static void seriesAreNumberedAsTheyComeUp() {
        Ticksilo x = of(666, 0, 0, 0, 123, 0);
        due(x.write(6, 6, 6, 0, 1), CONFLICT);
        put(x, 122, 0, 0);
        int[] labels = {666, 0, 123, 122};
        for (int i = 0; i < 4; i++) due(x.labels(i), labels[i]);
        // An erased one and one torn off keep their numbers.
        x.erase(0, 0, 0);
        x.crash(5);
        due(put(x, 122, 0, 0), GOOD);
        due(put(x, 0, 0, 0), GOOD);
        due(x.series(), 4);
        for (int i = 0; i < 4; i++) due(x.labels(i), labels[i]);
    }

    /** Twelve series, 100 to 105 and 110 to 115, each with a sample at the time 0. */
    private static Ticksilo ofTwelve() {
        Ticksilo x = new Ticksilo();
        for (int i = 0; i < 12; i++) due(x.write(1, i / 6, i % 6, 0, i), GOOD);
        return x;
    }

    @Sentence(under = "SERIES, SAMPLES", says = "at most 12")
    static void atMost12SeriesComeUp() {
        Ticksilo x = ofTwelve();
        due(x.series(), 12);
        due(x.write(2, 0, 0, 0, 0), FULL);
        due(x.series(), 12);
        due(x.labels(11), 115);
        index(() -> x.labels(12));
    }

    @Sentence(under = "SERIES, SAMPLES", says = "Series stand in the order of their labels, 0 first.")
    static void seriesStandInOrderOfLabels() {
        Ticksilo x = of(600, 1, 60, 2, 6, 3, 5, 4, 50, 5, 500, 6, 0, 7);
        due(told(x, 0, AT, 0, 0), "000=7000 005=4000 006=3000 050=5000 060=2000 500=6000 600=1000");
        due(x.labels(0), 600);
    }

    @Sentence(under = "SERIES, SAMPLES", says = "A sample of a series has a time and a value, -1000000 to 1000000, or is STALE.")
    static void samplesHoldTheGreatestAndTheLeastValue() {
        Ticksilo x = with(2, 0, -1000000, 1, 1000000, 2, STALE);
        due(told(x, 0, AT, 0, 0), "000=-1000000000");
        due(told(x, 1, AT, 0, 0), "000=1000000000");
        due(told(x, 2, AT, 0, 0), "");
        due(x.samples(0), 3);
    }

    @Sentence(under = "SERIES, SAMPLES", says = "Now is the time 0 at first.")
    static void nowIs0AtFirst() {
        Ticksilo x = new Ticksilo();
        argument(() -> x.write(0, 0, 0, 1, 0));
        due(x.write(0, 0, 0, 0, 0), GOOD);
        due(x.pass(1), 1);
    }

    @Sentence(under = "SERIES, SAMPLES", says = "A sample can be written for a time from 0 up to now.")
    static void samplesAreWrittenForTimesFrom0UpToNow() {
        Ticksilo x = at(37);
        due(x.write(0, 0, 0, 37, 1), GOOD);
        due(x.write(0, 0, 0, 0, 1), GOOD);
        argument(() -> x.write(0, 0, 0, 38, 1));
        argument(() -> x.write(0, 0, 0, -1, 1));
        x.pass(1);
        due(x.write(0, 0, 0, 38, 1), GOOD);
    }

    @Sentence(under = "SERIES, SAMPLES", says = "It is looked at so, the first that applies counting: if the series has not come up, and 12 have, it is FULL;")
    static void fullIfItHasNotComeUpAnd12Have() {
        Ticksilo x = at(10);
        for (int i = 0; i < 11; i++) due(x.write(i % 6, i / 6, 6, 0, 0), GOOD);
        due(x.write(6, 6, 6, 0, 0), GOOD);
        due(x.write(6, 6, 5, 0, 0), FULL);
        due(x.write(5, 5, 5, 10, STALE), FULL);
        // Each of the twelve goes on.
        due(x.write(6, 6, 6, 1, 0), GOOD);
        due(x.write(0, 0, 6, 1, 0), GOOD);
        due(x.write(0, 0, 6, 0, 0), DOUBLED);
        due(x.log(), 14);
        due(x.samples(11), 2);
    }

    @Sentence(under = "SERIES, SAMPLES", says = "if the series has not come up, and 12 have, it is FULL;")
    static void fullAlsoWithoutAnySample() {
        Ticksilo x = ofTwelve();
        x.crash(1000);
        due(x.write(1, 2, 0, 0, 0), FULL);
        x.flush();
        due(x.write(1, 2, 0, 0, 0), FULL);
        due(x.write(1, 1, 5, 0, 0), GOOD);
    }

    @Sentence(under = "SERIES, SAMPLES", says = "the first that applies counting: if the series has not come up, and 12 have, it is FULL;")
    static void fullComesAheadOfOver() {
        Ticksilo x = at(60);
        for (int i = 0; i < 12; i++) {
            for (int t = 0; t < 5; t++) due(x.write(3, i / 6, i % 6, t, 0), GOOD);
        }
        due(x.write(3, 2, 0, 0, 0), FULL);
        due(x.write(3, 0, 0, 5, 0), OVER);
        due(x.write(4, 0, 0, 5, 0), FULL);
    }

    @Sentence(under = "SERIES, SAMPLES", says = "if the series has a sample of that time that is seen, it is DOUBLED if that has the same value, and a CONFLICT otherwise;")
    static void doubledOrConflictOfTheSameTime() {
        Ticksilo x = with(100, 0, 5, 50, STALE, 100, -1000000);
        due(x.write(0, 0, 0, 0, 5), DOUBLED);
        due(x.write(0, 0, 0, 0, 4), CONFLICT);
        due(x.write(0, 0, 0, 0, 6), CONFLICT);
        due(x.write(0, 0, 0, 0, STALE), CONFLICT);
        due(x.write(0, 0, 0, 50, STALE), DOUBLED);
        due(x.write(0, 0, 0, 50, 0), CONFLICT);
        due(x.write(0, 0, 0, 100, -1000000), DOUBLED);
        due(x.write(0, 0, 0, 100, 1000000), CONFLICT);
        due(x.samples(0), 3);
        due(x.log(), 3);
        due(told(x, 0, AT, 0, 0), "000=5000");
        // The same time in another series, and times next to it, are GOOD.
        due(x.write(0, 0, 1, 0, 5), GOOD);
        due(x.write(0, 0, 0, 1, 5), GOOD);
        due(x.write(0, 0, 0, 99, 5), GOOD);
    }

    @Sentence(under = "SERIES, SAMPLES", says = "a sample of that time that is seen")
    static void erasedSamplesAreNotDoubled() {
        Ticksilo x = with(10, 5, 7);
        x.erase(0, 5, 5);
        due(x.write(0, 0, 0, 5, 7), GOOD);
        x.erase(0, 5, 5);
        due(x.write(0, 0, 0, 5, 8), GOOD);
        due(x.write(0, 0, 0, 5, 7), CONFLICT);
        x.crash(1);
        due(x.write(0, 0, 0, 5, 9), GOOD);
        due(x.samples(0), 1);
    }

    @Sentence(under = "SERIES, SAMPLES", says = "the first that applies counting")
    static void doubledAndConflictComeAheadOfLate() {
        Ticksilo x = with(300, 0, 5, 100, 5, 200, 5, 300, 5);
        due(x.write(0, 0, 0, 0, 5), DOUBLED);
        due(x.write(0, 0, 0, 0, 6), CONFLICT);
        due(x.write(0, 0, 0, 1, 5), LATE);
        due(x.write(0, 0, 0, 199, 5), LATE);
    }

    @Sentence(under = "SERIES, SAMPLES", says = "if it is more than 100 ahead of the latest time of the samples of the series that are seen, it is LATE;")
    static void lateMoreThan100AheadOfTheLatest() {
        Ticksilo x = with(300, 201, 1);
        due(x.write(0, 0, 0, 102, 1), GOOD);
        due(x.write(0, 0, 0, 101, 1), GOOD);
        due(x.write(0, 0, 0, 100, 1), LATE);
        due(x.write(0, 0, 0, 99, 1), LATE);
        due(x.write(0, 0, 0, 0, 1), LATE);
        due(x.samples(0), 3);
        due(x.log(), 3);
        // It counts from the latest, wherever the others lie.
        due(x.write(0, 0, 0, 202, 1), GOOD);
        due(x.write(0, 0, 0, 101, 2), CONFLICT);
        due(x.write(0, 0, 0, 103, 1), GOOD);
    }

    @Sentence(under = "SERIES, SAMPLES", says = "the latest time of the samples of the series that are seen")
    static void lateCountsFromTheLatestOfTheSeriesThatIsSeen() {
        Ticksilo x = with(400, 100, 1, 300, STALE);
        put(x, 1, 400, 1);
        // A STALE one counts; one of another series doesn't.
        due(x.write(0, 0, 0, 200, 1), GOOD);
        due(x.write(0, 0, 0, 199, 1), LATE);
        x.erase(0, 300, 300);
        due(x.write(0, 0, 0, 101, 1), GOOD);
        due(x.write(0, 0, 0, 99, 1), LATE);
        x.erase(0, 200, 200);
        due(x.write(0, 0, 0, 1, 1), GOOD);
        due(x.write(0, 0, 0, 0, 1), LATE);
        // A crash makes them seen again.
        x.crash(2);
        due(x.write(0, 0, 0, 99, 1), LATE);
        due(x.write(0, 0, 0, 102, 1), GOOD);
        x.erase(0, 0, 400);
        due(x.write(0, 0, 0, 0, 1), GOOD);
    }

    @Sentence(under = "SERIES, SAMPLES", says = "the first that applies counting")
    static void lateComesAheadOfOver() {
        Ticksilo x = at(300);
        for (int i = 0; i < 60; i++) due(x.write(0, 0, 0, 200 + i, 0), GOOD);
        due(x.write(0, 0, 0, 158, 0), LATE);
        due(x.write(0, 0, 0, 159, 0), OVER);
        due(x.write(0, 0, 0, 259, 0), DOUBLED);
        due(x.write(0, 0, 0, 259, 1), CONFLICT);
    }

    @Sentence(under = "SERIES, SAMPLES", says = "if the samples that are seen, of all series with the same label 0, are 60 or more, it is OVER.")
    static void overBehind60OfOneSeries() {
        Ticksilo x = at(100);
        for (int i = 0; i < 59; i++) due(x.write(4, 0, 0, i, i), GOOD);
        due(x.write(4, 0, 0, 59, STALE), GOOD);
        due(x.write(4, 0, 0, 60, 0), OVER);
        due(x.write(4, 0, 1, 60, 0), OVER);
        due(x.series(), 1);
        due(x.samples(0), 60);
        due(x.log(), 60);
        due(x.write(3, 0, 0, 60, 0), GOOD);
        due(x.write(5, 0, 0, 60, 0), GOOD);
        due(x.write(6, 0, 0, 60, 0), GOOD);
    }

    @Sentence(under = "SERIES, SAMPLES", says = "of all series with the same label 0, are 60 or more, it is OVER.")
    static void overCountsAllSeriesWithTheSameLabel0() {
        Ticksilo x = at(100);
        for (int i = 0; i < 60; i++) due(x.write(6, i % 2, i % 3, i, 0), GOOD);
        put(x, 0, 0, 0);
        for (int i = 0; i < 6; i++) due(x.write(6, i % 2, i % 3, 70, 0), OVER);
        due(x.write(6, 2, 2, 70, 0), OVER);
        due(x.write(0, 0, 0, 70, 0), GOOD);
        due(x.series(), 7);
    }

    @Sentence(under = "SERIES, SAMPLES", says = "if the samples that are seen")
    static void overCountsJustThoseThatAreSeen() {
        Ticksilo x = at(2000);
        for (int i = 0; i < 60; i++) x.write(0, i % 2, 0, 950 + i, 0);
        due(x.write(0, 0, 0, 1011, 0), OVER);
        due(x.erase(0, 1009, 1009), 1);
        due(x.write(0, 0, 0, 1011, 0), GOOD);
        due(x.write(0, 0, 0, 1012, 0), OVER);
        // Torn off with the erasing, the one of 1009 is seen again: 60.
        due(x.crash(2), 60);
        due(x.write(0, 0, 0, 1012, 0), OVER);
        due(x.crash(1), 59);
        due(x.write(0, 0, 0, 1012, 0), GOOD);
        due(x.write(0, 0, 0, 1013, 0), OVER);
        // Of 1000 to 1008, and 1012, ten stay behind retention.
        x.flush();
        for (int i = 0; i < 50; i++) due(x.write(0, 2, 0, i, 0), GOOD);
        due(x.write(0, 2, 0, 50, 0), OVER);
    }

    @Sentence(under = "SERIES, SAMPLES", says = "Otherwise it is GOOD: the series has come up then, if it had not, and the sample is there.")
    static void otherwiseItIsGood() {
        Ticksilo x = new Ticksilo();
        due(x.write(1, 2, 3, 0, 0), GOOD);
        due(x.series(), 1);
        due(x.samples(0), 1);
        due(x.write(1, 2, 4, 0, STALE), GOOD);
        due(x.series(), 2);
        due(x.samples(1), 1);
        due(told(x, 0, COUNT, 0, 1), "123=1000");
    }

    @Sentence(under = "SERIES, SAMPLES", says = "A sample is seen, unless it was erased behind being written.")
    static void erasingDoesNotTouchWhatIsWrittenLater() {
        Ticksilo x = with(10, 5, 1);
        due(x.erase(0, 0, LAST), 1);
        due(x.samples(0), 0);
        due(x.write(0, 0, 0, 5, 1), GOOD);
        due(x.write(0, 0, 0, 6, 1), GOOD);
        due(x.samples(0), 2);
        due(told(x, 10, TOTAL, 0, 10), "000=2000");
    }

    @Sentence(under = "SERIES, SAMPLES", says = "To erase is for a selector and for times from one to another one.")
    static void erasingIsForTheTimesFromOneToAnother() {
        Ticksilo x = with(20, 9, 1, 10, 2, 11, 3, 14, 4, 15, 5, 16, 6);
        put(x, 100, 12, 7);
        x.select(2, 1, ALL, ALL);
        due(x.erase(2, 10, 15), 4);
        due(told(x, 20, TOTAL, 0, 100), "000=7000 100=7000");
        due(x.samples(1), 1);
        due(x.erase(0, 12, 12), 1);
        due(x.samples(0), 2);
        due(x.samples(1), 0);
    }

    // ---- Promise 1 to 7

    @Sentence(under = "Promise 1", says = "No series, at the time 0.")
    static void aNewObjectHasNoSeries() {
        Ticksilo x = new Ticksilo();
        due(x.series(), 0);
        index(() -> x.labels(0));
        index(() -> x.samples(0));
        index(() -> x.bits(0, 0));
        index(() -> x.thinned(0, 10, 0, 0));
        due(x.erase(0, 0, LAST), 0);
        due(x.log(), 1);
        due(x.crash(0), 1);
        due(x.flush(), 0);
        due(told(x, 0, AT, 0, 0), "");
        due(x.behind(), 0);
        due(x.mend(1000), 0);
        due(x.notices(), 0);
    }

    @Sentence(under = "Promise 1", says = "at the time 0")
    static void aNewObjectIsAtTheTime0() {
        Ticksilo x = new Ticksilo();
        argument(() -> x.write(0, 0, 0, 1, 0));
        due(x.pass(100), 100);
        due(new Ticksilo().pass(1), 1);
    }

    @Sentence(under = "Promise 2", says = "zero: 0 to 6: the label 0")
    static void label0Is0To6() {
        Ticksilo x = new Ticksilo();
        for (int v = 0; v <= 6; v++) due(x.write(v, 1, 2, 0, v), GOOD);
        for (int v = 0; v <= 6; v++) due(x.labels(v), 100 * v + 12);
        argumentsOutside(0, 6, v -> x.write(v, 1, 2, 0, 0));
        due(x.series(), 7);
    }

    @Sentence(under = "Promise 2", says = "one: 0 to 6: the label 1")
    static void label1Is0To6() {
        Ticksilo x = new Ticksilo();
        for (int v = 0; v <= 6; v++) due(x.write(1, v, 2, 0, v), GOOD);
        for (int v = 0; v <= 6; v++) due(x.labels(v), 102 + 10 * v);
        argumentsOutside(0, 6, v -> x.write(1, v, 2, 0, 0));
        due(x.series(), 7);
    }

    @Sentence(under = "Promise 2", says = "two: 0 to 6: the label 2")
    static void label2Is0To6() {
        Ticksilo x = new Ticksilo();
        for (int v = 0; v <= 6; v++) due(x.write(1, 2, v, 0, v), GOOD);
        for (int v = 0; v <= 6; v++) due(x.labels(v), 120 + v);
        argumentsOutside(0, 6, v -> x.write(1, 2, v, 0, 0));
        due(x.series(), 7);
    }

    @Sentence(under = "Promise 2", says = "time: 0 to now")
    static void theTimeIs0ToNow() {
        Ticksilo x = new Ticksilo();
        due(x.write(0, 0, 0, 0, 0), GOOD);
        argumentsOutside(0, 0, t -> x.write(0, 0, 0, t, 0));
        x.pass(100);
        due(x.write(0, 0, 0, 99, 0), GOOD);
        due(x.write(0, 0, 0, 100, 0), GOOD);
        argumentsOutside(0, 100, t -> x.write(0, 0, 0, t, 0));
        due(x.samples(0), 3);
    }

    @Sentence(under = "Promise 2", says = "value: -1000000 to 1000000, or STALE")
    static void theValueIsUpToAMillionOrStale() {
        Ticksilo x = at(10);
        int[] fine = {-1000000, -999999, 0, 999999, 1000000, STALE};
        for (int i = 0; i < fine.length; i++) due(x.write(0, 0, 0, i, fine[i]), GOOD);
        int[] refused = {-1000001, 1000001, STALE + 1, Integer.MAX_VALUE};
        for (int value : refused) argument(() -> x.write(0, 0, 0, 9, value));
        due(x.samples(0), 6);
        for (int i = 0; i < 5; i++) due(told(x, i, AT, 0, 0), "000=" + 1000L * fine[i]);
    }

    @Sentence(under = "Promise 2", says = "Returns GOOD to OVER.")
    static void itReturnsGoodToOver() {
        Ticksilo x = at(300);
        due(x.write(0, 0, 0, 200, 1), 0);
        due(x.write(0, 0, 0, 200, 1), 2);
        due(x.write(0, 0, 0, 200, 2), 3);
        due(x.write(0, 0, 0, 99, 1), 4);
        for (int i = 1; i < 60; i++) x.write(0, 0, i % 6, 200 + i, 1);
        due(x.write(0, 0, 0, 300, 1), 5);
        for (int i = 0; i < 6; i++) due(x.write(1, 0, i, 0, 1), 0);
        due(x.write(1, 0, 6, 0, 1), 1);
    }

    @Sentence(under = "Promise 2", says = "Throws IllegalArgumentException if an argument is out of range")
    static void itThrowsAlsoWhereTheSampleWouldNotBeGood() {
        Ticksilo x = ofTwelve();
        argument(() -> x.write(7, 0, 0, 0, 0));
        argument(() -> x.write(1, 0, 0, 0, 1000001));
        argument(() -> x.write(1, 0, 0, 1, 0));
        argument(() -> x.write(7, 7, 7, 1, 1000001));
        argument(() -> x.write(-1, -1, -1, -1, -1000001));
        due(x.write(1, 0, 0, 0, 0), DOUBLED);
    }

    @Sentence(under = "Promise 3", says = "Returns how many series have come up.")
    static void seriesFrom0To12() {
        Ticksilo x = new Ticksilo();
        for (int i = 0; i < 12; i++) {
            due(x.series(), i);
            due(x.write(i % 6, i / 6, 6, 0, 0), GOOD);
            due(x.write(i % 6, i / 6, 6, 0, 1), CONFLICT);
        }
        due(x.series(), 12);
        due(x.write(6, 6, 6, 0, 0), FULL);
        due(x.series(), 12);
        x.erase(0, 0, 0);
        x.flush();
        due(x.series(), 12);
    }

    @Sentence(under = "Promise 4", says = "Returns the labels of a series. series: its number")
    static void labelsOfTheFirstAndTheLastSeries() {
        Ticksilo x = of(10, 0);
        due(x.labels(0), 10);
        indexesOutside(0, 0, x::labels);
        put(x, 11, 0, 0);
        due(x.labels(1), 11);
        indexesOutside(0, 1, x::labels);
    }

    @Sentence(under = "Promise 4", says = "Returns 100 times the label 0, 10 times the label 1, and the label 2, together.")
    static void labelsFrom0To666() {
        Ticksilo x = of(0, 0, 1, 0, 10, 0, 100, 0, 666, 0, 654, 0, 606, 0);
        int[] labels = {0, 1, 10, 100, 666, 654, 606};
        for (int i = 0; i < labels.length; i++) due(x.labels(i), labels[i]);
    }

    @Sentence(under = "Promise 4", says = "Throws IndexOutOfBoundsException if there is no such series")
    static void noLabelsOfNoSeries() {
        indexesOutside(0, -1, new Ticksilo()::labels);
        indexesOutside(0, 11, ofTwelve()::labels);
    }

    @Sentence(under = "Promise 5", says = "Returns how many samples of a series are seen. series: its number")
    static void samplesFromNoneTo60() {
        Ticksilo x = at(100);
        for (int i = 0; i < 60; i++) {
            x.write(2, 2, 2, i, i);
            due(x.samples(0), i + 1);
        }
        x.write(2, 2, 2, 60, 0);
        due(x.samples(0), 60);
        x.erase(0, 0, 58);
        due(x.samples(0), 1);
        x.erase(0, 59, 59);
        due(x.samples(0), 0);
        x.crash(1);
        due(x.samples(0), 1);
        x.crash(1000);
        due(x.samples(0), 0);
    }

    @Sentence(under = "Promise 5", says = "Returns how many, STALE ones too.")
    static void staleSamplesAreCounted() {
        Ticksilo x = with(3, 1, STALE);
        due(x.samples(0), 1);
        x.write(0, 0, 0, 2, STALE);
        x.write(0, 0, 0, 3, 1);
        due(x.samples(0), 3);
    }

    @Sentence(under = "Promise 5", says = "Throws IndexOutOfBoundsException if there is no such series")
    static void noSamplesOfNoSeries() {
        indexesOutside(0, -1, new Ticksilo()::samples);
        indexesOutside(0, 11, ofTwelve()::samples);
        due(ofTwelve().samples(11), 1);
    }

    @Sentence(under = "Promise 6", says = "selector: 0 to 3")
    static void erasingTakesTheSelectors0To3() {
        Ticksilo x = of(0, 1, 1, 1, 2, 1, 3, 1);
        for (int s = 0; s <= 3; s++) x.select(s, ALL, ALL, 1 << s);
        for (int s = 0; s <= 3; s++) {
            due(x.erase(s, 0, 0), 1);
            due(x.samples(s), 0);
        }
        indexesOutside(0, 3, s -> x.erase(s, 0, 0));
    }

    @Sentence(under = "Promise 6", says = "from: 0 to 100000")
    static void erasingFrom0To100000() {
        Ticksilo x = with(10, 0, 1, 1, 1, 10, 1);
        due(x.erase(0, LAST, LAST), 0);
        due(x.erase(0, 99999, LAST), 0);
        due(x.erase(0, 1, LAST), 2);
        due(x.erase(0, 0, LAST), 1);
        argumentsOutside(0, LAST, from -> x.erase(0, from, LAST));
    }

    @Sentence(under = "Promise 6", says = "to: from to 100000, included")
    static void erasingUpTo100000Included() {
        Ticksilo x = with(10, 4, 1, 5, 1, 6, 1, 10, 1);
        argumentsOutside(5, LAST, to -> x.erase(0, 5, to));
        argumentsOutside(0, LAST, to -> x.erase(0, 0, to));
        argumentsOutside(LAST, LAST, to -> x.erase(0, LAST, to));
        due(x.erase(0, 5, 5), 1);
        due(x.erase(0, 5, 6), 1);
        due(x.erase(0, 0, 9), 1);
        due(x.erase(0, 0, LAST), 1);
    }

    @Sentence(under = "Promise 6", says = "Returns how many samples are seen no more by it.")
    static void erasingReturnsHowManyAreSeenNoMore() {
        Ticksilo x = at(100);
        due(x.erase(0, 0, LAST), 0);
        for (int i = 0; i < 60; i++) x.write(0, 0, i % 2, i, i);
        x.write(1, 0, 0, 0, STALE);
        due(x.erase(0, 0, 0), 2);
        due(x.erase(0, 0, 0), 0);
        due(x.erase(0, 0, LAST), 59);
        due(x.erase(0, 0, LAST), 0);
        due(x.log(), 66);
    }

    @Sentence(under = "Promise 6", says = "Throws IndexOutOfBoundsException if there is no such selector")
    static void erasingWithoutASelector() {
        Ticksilo x = of(0, 1);
        index(() -> x.erase(4, 0, 0));
        index(() -> x.erase(-1, 0, 0));
        due(x.samples(0), 1);
        due(x.log(), 1);
    }

    @Sentence(under = "Promise 6", says = "Throws IllegalArgumentException if from or to is out of range")
    static void erasingBeyondTheTimes() {
        Ticksilo x = of(0, 1);
        argument(() -> x.erase(0, -1, 0));
        argument(() -> x.erase(0, -1, -1));
        argument(() -> x.erase(0, LAST + 1, LAST + 1));
        argument(() -> x.erase(0, 1, 0));
        argument(() -> x.erase(0, 0, LAST + 1));
        due(x.samples(0), 1);
        due(x.log(), 1);
    }

    @Sentence(under = "Promise 7", says = "times: 1 to 100")
    static void timeGoesOnBy1To100() {
        Ticksilo x = new Ticksilo();
        due(x.pass(1), 1);
        due(x.pass(100), 101);
        due(x.pass(2), 103);
        due(x.pass(99), 202);
        argumentsOutside(1, 100, x::pass);
        due(x.pass(1), 203);
    }

    @Sentence(under = "Promise 7", says = "Returns the time then.")
    static void passReturnsTheTimeThen() {
        Ticksilo x = new Ticksilo();
        int time = x.pass(63);
        due(time, 63);
        due(x.write(0, 0, 0, time, 1), GOOD);
        argument(() -> x.write(0, 0, 0, time + 1, 1));
    }

    @Sentence(under = "Promise 7", says = "Throws IllegalArgumentException if times is out of range")
    static void passRefuses0And101() {
        Ticksilo x = at(50);
        argument(() -> x.pass(0));
        argument(() -> x.pass(101));
        due(x.pass(1), 51);
    }

    @Sentence(under = "Promise 7", says = "Throws IllegalStateException if it would be above 100000")
    static void passEndsAt100000() {
        Ticksilo x = at(LAST - 99);
        state(() -> x.pass(100));
        due(x.pass(98), LAST - 1);
        state(() -> x.pass(2));
        state(() -> x.pass(100));
        argument(() -> x.pass(101));
        argument(() -> x.pass(0));
        due(x.pass(1), LAST);
        state(() -> x.pass(1));
        argument(() -> x.pass(0));
        due(x.write(0, 0, 0, LAST, 7), GOOD);
        argument(() -> x.write(0, 0, 0, LAST + 1, 7));
        due(told(x, LAST, AT, 0, 0), "000=7000");
        due(x.erase(0, LAST, LAST), 1);
        due(at(LAST - 100).pass(100), LAST);
    }
}
