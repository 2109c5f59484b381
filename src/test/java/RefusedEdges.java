import java.util.function.LongSupplier;

/** The sentences on exceptions behind LEVELS, COPY: for each method that throws, what it leaves and what it throws. */
final class RefusedEdges extends Due {
    /** A call of an object, with its answer as a number. */
    private interface Call {
        long of(Ticksilo x);
    }

    private static final String NOTHING = "A method that throws an exception changes nothing.";
    private static final String FIRST = "If several exceptions apply, the one that is documented first is thrown.";

    /** One that has something of all: at 105, with a draft of one word. */
    private static Ticksilo rich() {
        Ticksilo x = at(95);
        x.write(0, 0, 0, 90, 4);
        x.write(0, 0, 1, 91, 5);
        x.write(1, 0, 0, 92, -6);
        x.flush();
        x.write(0, 0, 0, 93, 6);
        x.write(1, 0, 0, 94, 7);
        x.select(1, 1, ALL, ALL);
        x.select(2, ALL, ALL, 1);
        x.select(3, ALL, ALL, 2);
        x.erase(3, 91, 91);
        draft(x, AT, 2, 0);
        x.alert(0, 20);
        draft(x, COUNT, 0, 50);
        x.record(3);
        draft(x, AT, 0, 0);
        x.alert(0, 0);
        x.inhibit(2, 0);
        x.silence(1, 100);
        x.pass(10);
        x.down(true);
        x.write(0, 0, 0, 104, 8);
        draft(x, AT, 0, 0);
        x.ask(105);
        draft(x, AT, 1, 0);
        return x;
    }

    /** What all calls answer of an object; it is not to be used any more then. */
    private static String picture(Ticksilo x) {
        StringBuilder text = new StringBuilder();
        for (int i = 0; i < 7; i++) {
            int e = i;
            tell(text, "value", () -> x.value(e), () -> x.labelsOf(e));
        }
        tell(text, "counts", x::series, x::log, x::behind, x::notices);
        tellSeries(text, x);
        tellAlerts(text, x);
        tell(text, "draft", () -> x.word(NUMBER, 1000, 0), () -> x.ask(105), x::clear);
        for (int s = 0; s < 4; s++) {
            int selector = s;
            tell(text, "selector", () -> x.word(AT, selector, 0), () -> x.word(SUM, 0, 0), () -> x.ask(105),
                () -> x.value(0), x::clear, () -> x.word(COUNT, selector, 1000), () -> x.word(SUM, 0, 0),
                () -> x.ask(105), () -> x.value(0), x::clear);
        }
        tell(text, "copy", () -> x.mend(1), x::behind, () -> x.down(false) ? 1 : 0);
        tell(text, "settings", () -> x.retain(20), () -> x.inhibit(2, NONE), () -> x.silence(0, 0));
        tell(text, "rules", () -> x.word(NUMBER, 2000, 0), () -> x.record(4));
        tell(text, "time", () -> x.pass(1), () -> x.pass(4), x::notices, x::series, x::log);
        for (int i = 0; i < 3; i++) tell(text, "crash", () -> x.crash(1), () -> x.samples(0), () -> x.samples(1));
        tell(text, "flush", x::flush, x::log, () -> x.samples(0), () -> x.bits(0, 1));
        return text.toString();
    }

    private static void tellSeries(StringBuilder text, Ticksilo x) {
        for (int i = 0; i < 6; i++) {
            int s = i;
            tell(text, "series", () -> x.labels(s), () -> x.samples(s), () -> x.bits(s, 0), () -> x.bits(s, 1),
                () -> x.thinned(s, 100, 0, 0), () -> x.thinned(s, 100, 0, 1), () -> x.thinned(s, 100, 1, 0),
                () -> x.thinned(s, 100, 1, 1), () -> x.thinned(s, 10, 9, 2), () -> x.thinned(s, 10, 9, 3));
        }
    }

    private static void tellAlerts(StringBuilder text, Ticksilo x) {
        for (int i = 0; i < 3; i++) {
            int a = i;
            tell(text, "alert", () -> x.entries(a, false), () -> x.entries(a, true));
            for (int k = 0; k < 5; k++) {
                int e = k;
                tell(text, "entry", () -> x.entry(a, e, 0), () -> x.entry(a, e, 1), () -> x.entry(a, e, 2),
                    () -> x.entry(a, e, 3));
            }
        }
        for (int i = 0; i < 5; i++) {
            int n = i;
            tell(text, "notice", () -> x.notice(n, 0), () -> x.notice(n, 1), () -> x.notice(n, 2));
        }
    }

    private static void tell(StringBuilder text, String name, LongSupplier... calls) {
        text.append('\n').append(name);
        for (LongSupplier call : calls) text.append(' ').append(thrownBy(call));
    }

    /** Sees that each call throws, and that what it was called of is then like one that was not. */
    private static void changesNothing(Call... calls) {
        changesNothingBehind(x -> 0, calls);
    }

    private static void changesNothingBehind(Call before, Call... calls) {
        Ticksilo twin = rich();
        before.of(twin);
        String due = picture(twin);
        for (Call call : calls) {
            Ticksilo x = rich();
            before.of(x);
            due(thrownBy(() -> call.of(x)).startsWith("java.lang.I"), true);
            due(picture(x), due);
        }
    }

    private static long passTo(Ticksilo x, int time) {
        passOn(x, time - 105);
        return time;
    }

    private static long fillDraft(Ticksilo x) {
        int words = 1;
        while (words < 10) words = x.word(NUMBER, words, 0);
        return words;
    }

    private static long addRules(Ticksilo x) {
        int rules = 3;
        while (rules < 8) {
            draft(x, NUMBER, 1000, 0);
            rules = x.record(0);
        }
        draft(x, NUMBER, 1000, 0);
        return rules;
    }

    private static long addSilences(Ticksilo x) {
        int silences = 1;
        while (silences < 10) silences = x.silence(1, 0);
        return silences;
    }

    // ---- A method that throws an exception changes nothing.

    @Sentence(under = "EXCEPTIONS", says = NOTHING)
    static void thePictureTellsObjectsApart() {
        String plain = picture(rich());
        due(plain, picture(rich()));
        Call[] changes = {
            x -> x.write(0, 0, 0, 99, 1), x -> x.write(5, 5, 5, 105, 1), x -> x.erase(0, 0, 0), x -> x.erase(0, 93, 93),
            x -> x.pass(1), x -> x.retain(1), x -> x.flush(), x -> x.crash(1), x -> x.select(0, 1, 1, 1),
            x -> x.select(3, 1, 1, 1), x -> x.word(NUMBER, 1, 0), x -> x.clear(), x -> x.ask(104), x -> x.record(0),
            x -> x.alert(0, 0), x -> x.inhibit(2, NONE), x -> x.silence(0, 0), x -> x.down(false) ? 1 : 0,
            x -> x.mend(1)};
        for (int i = 0; i < changes.length; i++) {
            Ticksilo x = rich();
            changes[i].of(x);
            if (picture(x).equals(plain)) due("the picture behind change " + i, "another one");
        }
    }

    @Sentence(under = "EXCEPTIONS", says = NOTHING)
    static void refusedWrites() {
        changesNothing(x -> x.write(-1, 0, 0, 105, 1), x -> x.write(7, 0, 0, 105, 1), x -> x.write(0, -1, 0, 105, 1),
            x -> x.write(0, 7, 0, 105, 1), x -> x.write(0, 0, -1, 105, 1), x -> x.write(0, 0, 7, 105, 1),
            x -> x.write(0, 0, 0, -1, 1), x -> x.write(0, 0, 0, 106, 1), x -> x.write(0, 0, 0, 105, 1000001),
            x -> x.write(0, 0, 0, 105, -1000001), x -> x.write(5, 5, 5, 106, 1));
    }

    @Sentence(under = "EXCEPTIONS", says = NOTHING)
    static void refusedErasings() {
        changesNothing(x -> x.erase(-1, 0, LAST), x -> x.erase(4, 0, LAST), x -> x.erase(0, -1, LAST),
            x -> x.erase(0, 0, LAST + 1), x -> x.erase(0, 94, 93), x -> x.erase(0, LAST + 1, LAST + 1));
    }

    @Sentence(under = "EXCEPTIONS", says = NOTHING)
    static void refusedPasses() {
        changesNothing(x -> x.pass(0), x -> x.pass(-1), x -> x.pass(101), x -> x.pass(Integer.MAX_VALUE),
            x -> x.pass(Integer.MIN_VALUE));
        changesNothingBehind(x -> passTo(x, LAST - 6), x -> x.pass(7), x -> x.pass(100), x -> x.pass(101));
        changesNothingBehind(x -> passTo(x, LAST), x -> x.pass(1), x -> x.pass(100), x -> x.pass(0));
    }

    @Sentence(under = "EXCEPTIONS", says = NOTHING)
    static void refusedRetentionsAndCrashes() {
        changesNothing(x -> x.retain(0), x -> x.retain(LAST + 1), x -> x.crash(-1), x -> x.crash(1001));
    }

    @Sentence(under = "EXCEPTIONS", says = NOTHING)
    static void refusedSelectors() {
        changesNothing(x -> x.select(-1, 1, 1, 1), x -> x.select(4, 1, 1, 1), x -> x.select(0, -1, 1, 1),
            x -> x.select(0, 128, 1, 1), x -> x.select(0, 1, -1, 1), x -> x.select(0, 1, 128, 1),
            x -> x.select(0, 1, 1, -1), x -> x.select(0, 1, 1, 128));
    }

    @Sentence(under = "EXCEPTIONS", says = NOTHING)
    static void refusedWords() {
        changesNothing(x -> x.word(-1, 0, 1), x -> x.word(16, 0, 1), x -> x.word(NUMBER, 1000001, 0),
            x -> x.word(NUMBER, -1000001, 0), x -> x.word(AT, 4, 0), x -> x.word(AT, 0, 1001), x -> x.word(AT, 0, -1),
            x -> x.word(COUNT, -1, 1), x -> x.word(RATE, 0, 0), x -> x.word(SUM, 8, 0), x -> x.word(MOST, -1, 0),
            x -> x.word(QUANTILE, 1001, 0), x -> x.word(PLUS, 0, 0), x -> x.word(ABOVE, 7, 0));
        changesNothingBehind(x -> x.clear(), x -> x.word(SUM, 0, 0), x -> x.word(QUANTILE, 0, 0), x -> x.word(PER, 0, 0));
        changesNothingBehind(x -> fillDraft(x), x -> x.word(NUMBER, 0, 0), x -> x.word(PLUS, 0, 0), x -> x.word(SUM, 0, 0));
    }

    @Sentence(under = "EXCEPTIONS", says = NOTHING)
    static void refusedAsks() {
        changesNothing(x -> x.ask(-1), x -> x.ask(LAST + 1));
        changesNothingBehind(x -> x.clear(), x -> x.ask(0), x -> x.ask(105));
        changesNothingBehind(x -> x.word(NUMBER, 1, 0), x -> x.ask(0), x -> x.ask(105));
    }

    @Sentence(under = "EXCEPTIONS", says = NOTHING)
    static void refusedRules() {
        changesNothing(x -> x.record(-1), x -> x.record(6));
        changesNothingBehind(x -> x.clear(), x -> x.record(0), x -> x.alert(0, 0));
        changesNothingBehind(x -> x.word(NUMBER, 1, 0), x -> x.record(0), x -> x.alert(0, 0));
        changesNothingBehind(x -> addRules(x), x -> x.record(0), x -> x.alert(0, 0));
    }

    @Sentence(under = "EXCEPTIONS", says = NOTHING)
    static void refusedAlertsAndInhibitings() {
        changesNothing(x -> x.alert(-1, 0), x -> x.alert(1001, 0), x -> x.alert(0, -1), x -> x.alert(0, 1001),
            x -> x.inhibit(1, NONE), x -> x.inhibit(3, NONE), x -> x.inhibit(-1, NONE), x -> x.inhibit(2, 1),
            x -> x.inhibit(2, 2), x -> x.inhibit(2, 3), x -> x.inhibit(2, -2), x -> x.inhibit(0, 0));
    }

    @Sentence(under = "EXCEPTIONS", says = NOTHING)
    static void refusedSilences() {
        changesNothing(x -> x.silence(-1, 200), x -> x.silence(4, 200), x -> x.silence(0, -1), x -> x.silence(0, LAST + 1));
        changesNothingBehind(x -> addSilences(x), x -> x.silence(0, LAST), x -> x.silence(4, 0), x -> x.silence(0, LAST + 1));
    }

    @Sentence(under = "EXCEPTIONS", says = NOTHING)
    static void refusedMendings() {
        changesNothing(x -> x.mend(0), x -> x.mend(1001), x -> x.mend(Integer.MIN_VALUE));
    }

    @Sentence(under = "EXCEPTIONS", says = NOTHING)
    static void refusedQuestions() {
        changesNothing(x -> x.labels(9), x -> x.labels(-1), x -> x.samples(9), x -> x.bits(9, 0), x -> x.bits(0, 5),
            x -> x.value(9), x -> x.value(-1), x -> x.labelsOf(9), x -> x.entries(1, false), x -> x.entries(3, true),
            x -> x.entry(1, 0, 0), x -> x.entry(0, 9, 0), x -> x.entry(0, 0, 4), x -> x.notice(50, 0),
            x -> x.notice(0, 3), x -> x.thinned(9, 10, 0, 0), x -> x.thinned(0, 11, 0, 0),
            x -> x.thinned(0, 10, 10001, 0), x -> x.thinned(0, 10, 0, 4), x -> x.suits(11, 0, 1) ? 1 : 0,
            x -> x.suits(10, -1, 1) ? 1 : 0, x -> x.suits(10, 0, 0) ? 1 : 0);
    }

    // ---- If several exceptions apply, the one that is documented first is thrown.

    @Sentence(under = "EXCEPTIONS", says = FIRST)
    static void erasingLooksAtTheSelectorFirst() {
        Ticksilo x = rich();
        index(() -> x.erase(4, -1, 0));
        index(() -> x.erase(-1, 5, 4));
        index(() -> x.erase(4, 0, LAST + 1));
        argument(() -> x.erase(3, 0, LAST + 1));
    }

    @Sentence(under = "EXCEPTIONS", says = FIRST)
    static void passLooksAtTimesFirst() {
        Ticksilo x = at(LAST);
        argument(() -> x.pass(101));
        argument(() -> x.pass(0));
        argument(() -> x.pass(Integer.MAX_VALUE));
        argument(() -> x.pass(Integer.MIN_VALUE));
        state(() -> x.pass(100));
        state(() -> x.pass(1));
    }

    @Sentence(under = "EXCEPTIONS", says = FIRST)
    static void selectLooksAtTheSelectorFirst() {
        Ticksilo x = new Ticksilo();
        index(() -> x.select(4, 128, -1, 128));
        index(() -> x.select(-1, 128, 0, 0));
        argument(() -> x.select(3, 128, 0, 0));
    }

    @Sentence(under = "EXCEPTIONS", says = FIRST)
    static void wordLooksAtItsArgumentsFirst() {
        Ticksilo x = new Ticksilo();
        argument(() -> x.word(PLUS, 8, 0));
        argument(() -> x.word(SUM, -1, 0));
        argument(() -> x.word(QUANTILE, 1001, 0));
        for (int i = 0; i < 10; i++) x.word(NUMBER, 1, 0);
        argument(() -> x.word(16, 0, 0));
        argument(() -> x.word(NUMBER, 1000001, 0));
        argument(() -> x.word(AT, 4, 0));
        argument(() -> x.word(COUNT, 0, 0));
        argument(() -> x.word(PLUS, 8, 0));
        state(() -> x.word(PLUS, 7, 0));
    }

    @Sentence(under = "EXCEPTIONS", says = FIRST)
    static void askLooksAtTheTimeFirst() {
        Ticksilo x = new Ticksilo();
        argument(() -> x.ask(-1));
        argument(() -> x.ask(LAST + 1));
        state(() -> x.ask(LAST));
        draft(x, NUMBER, 1, 0, NUMBER, 1, 0);
        argument(() -> x.ask(LAST + 1));
        state(() -> x.ask(0));
    }

    @Sentence(under = "EXCEPTIONS", says = FIRST)
    static void recordAndAlertLookAtTheirArgumentsFirst() {
        Ticksilo x = new Ticksilo();
        for (int i = 0; i <= 8; i++) {
            argument(() -> x.record(6));
            argument(() -> x.alert(0, 1001));
            argument(() -> x.alert(-1, 0));
            state(() -> x.record(5));
            state(() -> x.alert(1000, 1000));
            x.word(NUMBER, 1, 0);
            if (i < 8) x.record(0);
        }
        argument(() -> x.record(-1));
        argument(() -> x.alert(1001, 0));
        state(() -> x.record(0));
        state(() -> x.alert(0, 0));
    }

    @Sentence(under = "EXCEPTIONS", says = FIRST)
    static void silenceLooksAtTheSelectorThenAtTheTime() {
        Ticksilo x = new Ticksilo();
        index(() -> x.silence(4, -1));
        for (int i = 0; i < 10; i++) x.silence(0, 0);
        index(() -> x.silence(4, -1));
        index(() -> x.silence(-1, 0));
        argument(() -> x.silence(0, LAST + 1));
        state(() -> x.silence(0, LAST));
    }

    @Sentence(under = "EXCEPTIONS", says = FIRST)
    static void entryAndNoticeLookAtTheirNumbersFirst() {
        Ticksilo x = rich();
        index(() -> x.entry(3, 0, 4));
        index(() -> x.entry(0, 9, 4));
        index(() -> x.entry(1, 0, -1));
        argument(() -> x.entry(0, 0, 4));
        index(() -> x.notice(50, 3));
        index(() -> x.notice(-1, -1));
        argument(() -> x.notice(0, 3));
    }

    @Sentence(under = "EXCEPTIONS", says = FIRST)
    static void thinnedLooksAtTheSeriesFirst() {
        Ticksilo x = rich();
        index(() -> x.thinned(9, 11, 0, 0));
        index(() -> x.thinned(-1, 10, -1, 4));
        argument(() -> x.thinned(0, 11, -1, 4));
    }

    // ---- which exception it is

    @Sentence(under = "EXCEPTIONS", says = "IndexOutOfBoundsException is thrown where there is no such selector, series, block, entry, alert or notice,")
    static void whatThereIsNot() {
        Ticksilo x = new Ticksilo();
        index(() -> x.erase(4, 0, 0));
        index(() -> x.select(4, 0, 0, 0));
        index(() -> x.silence(4, 0));
        index(() -> x.labels(0));
        index(() -> x.samples(0));
        index(() -> x.thinned(0, 10, 0, 0));
        index(() -> x.bits(0, 0));
        x.write(0, 0, 0, 0, 1);
        index(() -> x.bits(0, 0));
        index(() -> x.value(0));
        index(() -> x.labelsOf(0));
        index(() -> x.entries(0, false));
        index(() -> x.inhibit(0, NONE));
        index(() -> x.entry(0, 0, 0));
        index(() -> x.notice(0, 0));
    }

    @Sentence(under = "EXCEPTIONS", says = "but where a method tells otherwise;")
    static void aWordTellsOtherwiseOfItsSelector() {
        Ticksilo x = new Ticksilo();
        for (int what = AT; what <= RATE; what++) {
            int w = what;
            argument(() -> x.word(w, 4, 1));
            argument(() -> x.word(w, -1, 1));
        }
    }

    @Sentence(under = "EXCEPTIONS", says = "IllegalArgumentException if another argument is out of range.")
    static void whatIsOutOfRange() {
        Ticksilo x = rich();
        argument(() -> x.write(7, 0, 0, 0, 0));
        argument(() -> x.erase(0, 1, 0));
        argument(() -> x.pass(0));
        argument(() -> x.retain(0));
        argument(() -> x.crash(-1));
        argument(() -> x.select(0, 128, 0, 0));
        argument(() -> x.word(16, 0, 0));
        argument(() -> x.ask(-1));
        argument(() -> x.record(6));
        argument(() -> x.alert(-1, 0));
        argument(() -> x.silence(0, -1));
        argument(() -> x.entry(0, 0, 4));
        argument(() -> x.notice(0, 3));
        argument(() -> x.thinned(0, 1, 0, 0));
        argument(() -> x.suits(1, 0, 1) ? 1 : 0);
        argument(() -> x.mend(0));
    }
}
