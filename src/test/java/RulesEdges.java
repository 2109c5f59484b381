/** Boundary cases of rules that record: RULES, ALERTS and the promise 19. */
final class RulesEdges extends Due {
    // ---- RULES, ALERTS

    @Sentence(under = "RULES, ALERTS", says = "Time goes on one by one; at each time that is a multiple of 10, rules and alerts are gone through,")
    static void rulesAreGoneThroughAtEachMultipleOf10() {
        Ticksilo x = new Ticksilo();
        draft(x, NUMBER, 1000, 0);
        x.record(0);
        draft(x, NUMBER, 1000, 0);
        due(x.alert(0, 0), 1);
        due(x.log(), 0);
        x.pass(9);
        due(x.log(), 0);
        due(x.entries(1, false), 0);
        x.pass(1);
        due(x.log(), 1);
        due(x.entry(1, 0, 2), 10);
        x.pass(1);
        x.pass(8);
        due(x.log(), 1);
        x.pass(1);
        due(x.log(), 2);
        x.pass(21);
        due(x.log(), 4);
        x.pass(8);
        due(x.log(), 4);
        // From 49 to 149: at 50, 60 .. 140.
        x.pass(100);
        due(x.log(), 14);
        due(x.samples(0), 14);
        for (int t = 10; t <= 140; t += 10) due(told(x, t, COUNT, 0, 1), "660=1000");
    }

    @Sentence(under = "RULES, ALERTS", says = "at each time that is a multiple of 10")
    static void rulesAreGoneThroughAtTheLastTime() {
        Ticksilo x = at(LAST - 1);
        draft(x, NUMBER, 1000, 0);
        x.record(0);
        state(() -> x.pass(2));
        due(x.log(), 0);
        due(x.pass(1), LAST);
        due(x.log(), 1);
        due(told(x, LAST, AT, 0, 0), "660=1000");
        state(() -> x.pass(1));
        due(x.log(), 1);
    }

    @Sentence(under = "RULES, ALERTS", says = "in the order in which they were told, each for this time.")
    static void rulesAreGoneThroughInTheirOrder() {
        Ticksilo x = with(9, 9, 4);
        x.select(1, ALL, ALL, 2);
        // Alert 0 looks ahead of the rule that writes 001, alert 2 behind it.
        draft(x, AT, 1, 0);
        due(x.alert(0, 0), 0);
        draft(x, AT, 0, 0);
        due(x.record(1), 2);
        draft(x, AT, 1, 0);
        due(x.alert(0, 0), 2);
        x.pass(1);
        due(x.entries(0, false), 0);
        due(x.entries(2, false), 1);
        due(x.entry(2, 0, 2), 10);
        x.pass(10);
        due(x.entries(0, false), 1);
        due(x.entry(0, 0, 2), 20);
        due(x.entry(2, 0, 2), 10);
    }

    @Sentence(under = "RULES, ALERTS", says = "in the order in which they were told")
    static void aLaterRuleSeesWhatAnEarlierOneWroteAtTheSameTime() {
        Ticksilo x = new Ticksilo();
        draft(x, COUNT, 0, 1, SUM, 0, 0);
        x.record(0);
        draft(x, NUMBER, 7000, 0);
        x.record(1);
        draft(x, COUNT, 0, 1, SUM, 0, 0);
        x.record(2);
        x.pass(10);
        due(told(x, 10, AT, 0, 0), "661=7000 662=1000");
        x.pass(10);
        // The window of 1 has just what was written at 20: none ahead of the first rule.
        due(told(x, 20, AT, 0, 0), "661=7000 662=1000");
        due(x.labels(0), 661);
        due(x.labels(1), 662);
        due(x.series(), 2);
    }

    /** What a rule of a number of thousandths, made so much greater, writes. */
    private static String written(int number, int times) {
        Ticksilo x = new Ticksilo();
        draft(x, NUMBER, number, 0, NUMBER, times, 0, TIMES, 0, 0);
        x.record(3);
        x.pass(10);
        return told(x, 10, AT, 0, 0);
    }

    @Sentence(under = "RULES, ALERTS", says = "A rule writes each value of its vector, by 1000, rounded toward 0,")
    static void whatIsWrittenIsRoundedToward0() {
        due(written(0, 1000), "663=0");
        due(written(999, 1000), "663=0");
        due(written(1000, 1000), "663=1000");
        due(written(1001, 1000), "663=1000");
        due(written(1999, 1000), "663=1000");
        due(written(2000, 1000), "663=2000");
        due(written(-999, 1000), "663=0");
        due(written(-1000, 1000), "663=-1000");
        due(written(-1999, 1000), "663=-1000");
        due(written(-2000, 1000), "663=-2000");
    }

    @Sentence(under = "RULES, ALERTS", says = "at most a sample's greatest, at least its least,")
    static void whatIsWrittenIsAtMostAMillion() {
        // A million thousandths by 999999, 1000000 and 1000001 thousandths.
        due(written(999999, 1000000), "663=999999000");
        due(written(1000000, 1000000), "663=1000000000");
        due(written(1000000, 999999), "663=999999000");
        due(written(-1000000, 1000000), "663=-1000000000");
        due(written(-1000000, 999999), "663=-999999000");
        Ticksilo x = at(9);
        int[] values = {1000000, 999999, -999999, -1000000};
        for (int i = 0; i < 4; i++) x.write(0, i, 0, 9, values[i]);
        x.select(0, ALL, ALL, 1);
        draft(x, AT, 0, 0, NUMBER, 1000, 0, PLUS, 0, 0);
        x.record(1);
        draft(x, AT, 0, 0, NUMBER, 1000, 0, MINUS, 0, 0);
        x.record(2);
        x.pass(1);
        due(x.log(), 12);
        x.select(0, ALL, ALL, 2);
        due(told(x, 10, AT, 0, 0), "001=1000000000 011=1000000000 021=-999998000 031=-999999000");
        x.select(0, ALL, ALL, 4);
        due(told(x, 10, AT, 0, 0), "002=999999000 012=999998000 022=-1000000000 032=-1000000000");
    }

    @Sentence(under = "RULES, ALERTS", says = "at most a sample's greatest, at least its least,")
    static void whatIsWrittenOfTheBoundsOfValues() {
        Ticksilo x = at(9);
        x.write(0, 0, 0, 9, 1000000);
        x.write(0, 1, 0, 9, -1000000);
        draft(x, AT, 0, 0, NUMBER, 1000000, 0, TIMES, 0, 0, NUMBER, 1000000, 0, TIMES, 0, 0);
        x.record(4);
        draft(x, AT, 0, 0, NUMBER, 999, 0, PLUS, 0, 0);
        x.select(0, ALL, ALL, 16);
        x.record(5);
        x.pass(1);
        due(told(x, 10, AT, 0, 0), "004=1000000000 014=-1000000000");
        // -1000000 and 999 thousandths are -999999.001: rounded toward 0.
        x.select(0, ALL, ALL, 32);
        due(told(x, 10, AT, 0, 0), "005=1000000000 015=-999999000");
    }

    @Sentence(under = "RULES, ALERTS", says = "as a sample of the time, for the labels with the label 2 being that told; a number for all labels without but that.")
    static void whatIsWrittenHasTheLabel2() {
        Ticksilo x = at(9);
        x.write(0, 6, 4, 9, 1);
        x.write(6, 3, 6, 9, 2);
        draft(x, AT, 0, 0);
        x.record(0);
        draft(x, NUMBER, 3000, 0);
        x.record(5);
        draft(x, AT, 0, 0, SUM, 0, 0);
        x.select(0, ALL, ALL, 1);
        x.record(1);
        x.pass(1);
        int[] labels = {64, 636, 60, 630, 665, 661};
        due(x.series(), 6);
        for (int i = 0; i < 6; i++) due(x.labels(i), labels[i]);
        due(told(x, 10, COUNT, 1, 1), "060=1000 630=1000 661=1000 665=1000");
        due(told(x, 10, AT, 0, 0), "060=1000 630=2000");
        // The sum of all that stand at 10: 1 and 2, again 1 and 2, and 3.
        x.select(0, ALL, ALL, 2);
        due(told(x, 10, AT, 0, 0), "661=9000");
    }

    @Sentence(under = "RULES, ALERTS", says = "What is not GOOD is not written;")
    static void whatIsFullIsNotWritten() {
        Ticksilo x = at(9);
        for (int i = 0; i < 11; i++) x.write(i % 6, i / 6, 6, 9, i);
        draft(x, AT, 0, 0);
        x.record(2);
        x.pass(1);
        // One more series can come up: the first of the vector.
        due(x.series(), 12);
        due(x.labels(11), 2);
        due(x.log(), 12);
        x.pass(10);
        due(x.series(), 12);
        due(x.log(), 13);
        due(x.samples(11), 2);
    }

    @Sentence(under = "RULES, ALERTS", says = "What is not GOOD is not written;")
    static void whatIsDoubledOrInConflictIsNotWritten() {
        Ticksilo x = at(9);
        x.write(0, 0, 0, 9, 5);
        x.write(0, 0, 1, 9, 6);
        x.write(0, 0, 2, 9, 5);
        draft(x, AT, 0, 0);
        x.record(3);
        draft(x, AT, 0, 0, NUMBER, 1000, 0, PLUS, 0, 0);
        x.record(3);
        x.pass(1);
        // 003 gets that of 000; the next is in conflict, the third doubled, those of the second rule in conflict.
        due(x.log(), 4);
        due(x.samples(3), 1);
        x.select(0, ALL, ALL, 8);
        due(told(x, 10, AT, 0, 0), "003=5000");
        due(x.write(0, 0, 3, 10, 5), DOUBLED);
    }

    @Sentence(under = "RULES, ALERTS", says = "What is not GOOD is not written;")
    static void whatIsOverIsNotWritten() {
        Ticksilo x = at(59);
        for (int i = 0; i < 59; i++) x.write(1, 0, 0, i, i);
        x.write(2, 0, 0, 59, 7);
        draft(x, AT, 0, 0);
        x.record(1);
        x.pass(1);
        due(x.log(), 62);
        due(x.samples(2), 1);
        x.pass(10);
        // Label 0 of 1 has 60 samples now, that of 2 has not.
        due(x.log(), 63);
        due(x.samples(2), 1);
        due(x.samples(3), 2);
    }

    @Sentence(under = "RULES, ALERTS", says = "what fails writes nothing.")
    static void whatFailsWritesNothing() {
        Ticksilo x = at(9);
        x.write(0, 0, 0, 9, 5);
        x.write(0, 0, 1, 9, 6);
        draft(x, AT, 0, 0, AT, 0, 0, PLUS, 0, 0);
        x.record(2);
        draft(x, NUMBER, 1, 0, NUMBER, 0, 0, PER, 0, 0);
        x.record(3);
        x.pass(1);
        due(x.log(), 2);
        due(x.series(), 2);
    }

    @Sentence(under = "RULES, ALERTS", says = "A rule writes each value of its vector")
    static void aVectorWithoutValuesWritesNothing() {
        Ticksilo x = new Ticksilo();
        draft(x, AT, 0, 0);
        x.record(2);
        draft(x, NUMBER, 1000, 0, QUANTILE, 500, 0);
        x.record(3);
        x.pass(100);
        due(x.log(), 0);
        due(x.series(), 0);
        // One of all twelve series writes twelve, if they are their own: with the label 2 told.
        for (int i = 0; i < 12; i++) x.write(i % 6, i / 6, 2, 91, i);
        x.pass(10);
        due(x.log(), 24);
        for (int i = 0; i < 12; i++) due(x.samples(i), 2);
    }

    // ---- Promise 19

    @Sentence(under = "Promise 19", says = "Makes the draft a rule that records; it is empty then.")
    static void theDraftIsEmptyBehindRecording() {
        Ticksilo x = new Ticksilo();
        for (int i = 0; i < 10; i++) x.word(i == 0 ? NUMBER : SUM, i == 0 ? 9000 : 0, 0);
        due(x.record(1), 1);
        due(x.clear(), 0);
        state(() -> x.ask(0));
        state(() -> x.word(SUM, 0, 0));
        // A new draft leaves the rule as it is.
        for (int i = 1; i <= 10; i++) due(x.word(NUMBER, 1, 0), i);
        x.clear();
        x.pass(10);
        due(told(x, 10, AT, 0, 0), "661=9000");
    }

    @Sentence(under = "Promise 19", says = "two: 0 to 5: the label 2 of what it records")
    static void theLabel2OfARuleIs0To5() {
        Ticksilo x = new Ticksilo();
        for (int two = 0; two <= 5; two++) {
            draft(x, NUMBER, 1000 * two, 0);
            argumentsOutside(0, 5, x::record);
            due(x.record(two), two + 1);
        }
        x.pass(10);
        for (int two = 0; two <= 5; two++) due(x.labels(two), 660 + two);
    }

    @Sentence(under = "Promise 19", says = "Returns how many rules and alerts there are then.")
    static void recordCountsRulesAndAlerts() {
        Ticksilo x = new Ticksilo();
        for (int i = 0; i < 8; i++) {
            draft(x, NUMBER, 1, 0);
            if (i % 3 == 1) due(x.alert(0, 0), i);
            else due(x.record(0), i + 1);
        }
    }

    @Sentence(under = "Promise 19", says = "Throws IllegalArgumentException if two is out of range")
    static void recordRefusesMinus1And6() {
        Ticksilo x = new Ticksilo();
        draft(x, NUMBER, 1, 0);
        argument(() -> x.record(-1));
        argument(() -> x.record(6));
        due(x.clear(), 1);
    }

    @Sentence(under = "Promise 19", says = "Throws IllegalStateException if the draft does not leave just one result, or there are 8")
    static void recordRefusesDraftsAndANinthRule() {
        Ticksilo x = new Ticksilo();
        state(() -> x.record(0));
        x.word(NUMBER, 1, 0);
        x.word(NUMBER, 1, 0);
        state(() -> x.record(0));
        due(x.clear(), 2);
        for (int i = 0; i < 7; i++) {
            draft(x, NUMBER, 1, 0);
            due(x.record(0), i + 1);
        }
        draft(x, NUMBER, 1, 0);
        due(x.alert(0, 0), 7);
        draft(x, NUMBER, 1, 0);
        state(() -> x.record(0));
        due(x.clear(), 1);
        x.pass(10);
        due(x.log(), 1);
    }
}
