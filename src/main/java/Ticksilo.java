import java.util.ArrayList;

/** A silo of series: samples with labels, a log, expressions, rules, alerts and a copy. */
public final class Ticksilo {
    public static final int NONE = -1;
    public static final int STALE = Integer.MIN_VALUE;
    public static final int GOOD = 0, FULL = 1, DOUBLED = 2, CONFLICT = 3, LATE = 4, OVER = 5;
    public static final int NUMBER = 0, AT = 1, COUNT = 2, TOTAL = 3, LEAST = 4, GREATEST = 5, SMOOTH = 6, RATE = 7,
        SUM = 8, MOST = 9, PLUS = 10, MINUS = 11, TIMES = 12, PER = 13, ABOVE = 14, QUANTILE = 15;
    public static final int WAITING = 0, FIRING = 1;

    private static final int WITHOUT = 6;
    private static final int ALL_WITHOUT = 666;
    private static final int ALL_VALUES = 127;
    private static final int SELECTORS = 4;
    private static final int MAX_SERIES = 12;
    private static final int MAX_SEEN = 60;
    private static final int MAX_WORDS = 10;
    private static final int MAX_RULES = 8;
    private static final int MAX_SILENCES = 10;
    private static final int MAX_NOTICES = 60;
    private static final int FACTS_OF_A_NOTICE = 3;
    private static final int LATE_BEYOND = 100;
    private static final int AT_REACHES = 50;
    private static final int MAX_WINDOW = 1000;
    private static final int LAST_TIME = 100000;
    private static final int MAX_VALUE = 1000000;
    private static final long MAX_RESULT = 100000000000000L;
    private static final int[] BOUNDS = {1000, 2000, 5000, 10000, 20000};

    private final Store store = new Store();
    private final Pile pile = new Pile();
    private final Result asked = new Result();
    private final Window thinnedWindow = new Window();
    private final Selector everything = new Selector(ALL_VALUES, ALL_VALUES, ALL_VALUES);
    private final ArrayList<Selector> selectors = new ArrayList<Selector>();
    private final ArrayList<Rule> rules = new ArrayList<Rule>();
    private final ArrayList<Selector> silenced = new ArrayList<Selector>();
    private final int[] silencedUntil = new int[MAX_SILENCES];
    private final int[] noticed = new int[MAX_NOTICES * FACTS_OF_A_NOTICE];
    private ArrayList<Word> draft = new ArrayList<Word>();
    private int tellings = 0;
    private int now = 0;
    private int retention = 1000;

    public Ticksilo() {
        for (int i = 0; i < SELECTORS; i++) {
            selectors.add(everything);
        }
    }

    // ---- samples

    public int write(int zero, int one, int two, int time, int value) throws IllegalArgumentException {
        if (!isWithin(zero, 0, WITHOUT) || !isWithin(one, 0, WITHOUT) || !isWithin(two, 0, WITHOUT)) {
            throw new IllegalArgumentException("a label is out of range");
        }
        if (!isWithin(time, 0, now)) {
            throw new IllegalArgumentException("the time is out of range");
        }
        if (value != STALE && !isWithin(value, -MAX_VALUE, MAX_VALUE)) {
            throw new IllegalArgumentException("the value is out of range");
        }
        return store.take(100 * zero + 10 * one + two, time, value);
    }

    public int series() {
        return store.numbered.size();
    }

    public int labels(int series) throws IndexOutOfBoundsException {
        return seriesOf(series).labels;
    }

    public int samples(int series) throws IndexOutOfBoundsException {
        return seriesOf(series).seen.size();
    }

    public int erase(int selector, int from, int to) throws IndexOutOfBoundsException, IllegalArgumentException {
        Selector selected = selectorOf(selector);
        if (!isWithin(from, 0, LAST_TIME) || !isWithin(to, from, LAST_TIME)) {
            throw new IllegalArgumentException("from or to is out of range");
        }
        return store.hide(selected, from, to);
    }

    public int pass(int times) throws IllegalArgumentException, IllegalStateException {
        if (!isWithin(times, 1, 100)) {
            throw new IllegalArgumentException("times is out of range");
        }
        if (times > LAST_TIME - now) {
            throw new IllegalStateException("time would be above its end");
        }
        for (int i = 0; i < times; i++) {
            now++;
            if (now % 10 == 0) {
                goThroughRules();
            }
        }
        return now;
    }

    // ---- blocks, log

    public int retain(int times) throws IllegalArgumentException {
        if (!isWithin(times, 1, LAST_TIME)) {
            throw new IllegalArgumentException("times is out of range");
        }
        int before = retention;
        retention = times;
        return before;
    }

    public int flush() {
        return store.packAll(now - retention);
    }

    public int log() {
        return store.records.size();
    }

    public int crash(int records) throws IllegalArgumentException {
        if (!isWithin(records, 0, 1000)) {
            throw new IllegalArgumentException("records is out of range");
        }
        return store.tearOff(records);
    }

    public int bits(int series, int hundred) throws IndexOutOfBoundsException {
        int packed = seriesOf(series).bitsOfBlock(hundred);
        if (packed == NONE) {
            throw new IndexOutOfBoundsException("no such block");
        }
        return packed;
    }

    // ---- asking

    public int select(int selector, int zero, int one, int two)
            throws IndexOutOfBoundsException, IllegalArgumentException {
        if (!isWithin(selector, 0, selectors.size() - 1)) {
            throw new IndexOutOfBoundsException("no such selector");
        }
        if (!isWithin(zero, 0, ALL_VALUES) || !isWithin(one, 0, ALL_VALUES) || !isWithin(two, 0, ALL_VALUES)) {
            throw new IllegalArgumentException("a set of values is out of range");
        }
        Selector selected = new Selector(zero, one, two);
        selectors.set(selector, selected);
        return store.countSelected(selected);
    }

    public int word(int what, int one, int two) throws IllegalArgumentException, IllegalStateException {
        if (!isWithin(what, NUMBER, QUANTILE) || !isFirstFit(what, one) || !isSecondFit(what, two)) {
            throw new IllegalArgumentException("what, one or two is out of range");
        }
        if (draft.size() >= MAX_WORDS || resultsLeft() < Word.needs(what)) {
            throw new IllegalStateException("too many words, or too few results");
        }
        Selector selected = everything;
        if (Word.reads(what) && isWithin(one, 0, selectors.size() - 1)) {
            selected = selectors.get(one);
        }
        draft.add(new Word(what, one, two, selected));
        return draft.size();
    }

    public int clear() {
        int before = draft.size();
        draft.clear();
        return before;
    }

    public int ask(int time) throws IllegalArgumentException, IllegalStateException {
        if (!isWithin(time, 0, LAST_TIME)) {
            throw new IllegalArgumentException("the time is out of range");
        }
        if (resultsLeft() != 1) {
            throw new IllegalStateException("the draft does not leave just one result");
        }
        Result result = pile.reckon(draft, store.numbered, time);
        asked.becomeVector();
        if (result == null) {
            return NONE;
        }
        for (int i = 0; i < result.size; i++) {
            asked.put(result.labels[i], result.values[i]);
        }
        return asked.size;
    }

    public long value(int entry) throws IndexOutOfBoundsException {
        if (!isWithin(entry, 0, asked.size - 1)) {
            throw new IndexOutOfBoundsException("no such entry");
        }
        return asked.values[entry];
    }

    public int labelsOf(int entry) throws IndexOutOfBoundsException {
        if (!isWithin(entry, 0, asked.size - 1)) {
            throw new IndexOutOfBoundsException("no such entry");
        }
        return asked.labels[entry];
    }

    // ---- rules, alerts

    public int record(int two) throws IllegalArgumentException, IllegalStateException {
        if (!isWithin(two, 0, WITHOUT - 1)) {
            throw new IllegalArgumentException("two is out of range");
        }
        if (resultsLeft() != 1 || rules.size() >= MAX_RULES) {
            throw new IllegalStateException("not just one result, or too many rules");
        }
        addRule(two, 0, 0);
        return rules.size();
    }

    public int alert(int wait, int keep) throws IllegalArgumentException, IllegalStateException {
        if (!isWithin(wait, 0, 1000) || !isWithin(keep, 0, 1000)) {
            throw new IllegalArgumentException("wait or keep is out of range");
        }
        if (resultsLeft() != 1 || rules.size() >= MAX_RULES) {
            throw new IllegalStateException("not just one result, or too many rules");
        }
        addRule(NONE, wait, keep);
        return rules.size() - 1;
    }

    public int inhibit(int alert, int other) throws IndexOutOfBoundsException {
        Rule higher = alertOf(alert);
        if (other != NONE && (!isAlert(other) || other >= alert)) {
            throw new IndexOutOfBoundsException("no such lower alert");
        }
        int before = higher.inhibitor;
        higher.inhibitor = other;
        return before;
    }

    public int silence(int selector, int until)
            throws IndexOutOfBoundsException, IllegalArgumentException, IllegalStateException {
        Selector selected = selectorOf(selector);
        if (!isWithin(until, 0, LAST_TIME)) {
            throw new IllegalArgumentException("until is out of range");
        }
        int told = silenced.size();
        if (told >= silencedUntil.length) {
            throw new IllegalStateException("too many silences");
        }
        silencedUntil[told] = until;
        silenced.add(selected);
        return silenced.size();
    }

    public int entries(int alert, boolean firing) throws IndexOutOfBoundsException {
        ArrayList<Entry> all = alertOf(alert).found;
        int count = 0;
        for (int i = 0; i < all.size(); i++) {
            if (!firing || all.get(i).firing) {
                count++;
            }
        }
        return count;
    }

    public int entry(int alert, int entry, int what) throws IndexOutOfBoundsException, IllegalArgumentException {
        ArrayList<Entry> all = alertOf(alert).found;
        if (!isWithin(entry, 0, all.size() - 1)) {
            throw new IndexOutOfBoundsException("no such entry");
        }
        if (!isWithin(what, 0, 3)) {
            throw new IllegalArgumentException("what is out of range");
        }
        return all.get(entry).tell(what);
    }

    public int notices() {
        return tellings;
    }

    public int notice(int notice, int what) throws IndexOutOfBoundsException, IllegalArgumentException {
        if (!isWithin(notice, 0, Math.min(tellings, MAX_NOTICES) - 1)) {
            throw new IndexOutOfBoundsException("no such notice");
        }
        if (!isWithin(what, 0, FACTS_OF_A_NOTICE - 1)) {
            throw new IllegalArgumentException("what is out of range");
        }
        return noticed[notice * FACTS_OF_A_NOTICE + what];
    }

    // ---- levels, copy

    public int thinned(int series, int level, int span, int what)
            throws IndexOutOfBoundsException, IllegalArgumentException {
        Series thin = seriesOf(series);
        if (!isLevel(level) || !isWithin(span, 0, 10000) || !isWithin(what, 0, 3)) {
            throw new IllegalArgumentException("level, span or what is out of range");
        }
        thinnedWindow.gather(thin, span * level, span * level + level - 1);
        return thinnedWindow.tellThinned(what);
    }

    public boolean suits(int level, int time, int window) throws IllegalArgumentException {
        if (!isLevel(level) || !isWithin(time, 0, LAST_TIME) || !isWithin(window, 1, MAX_WINDOW)) {
            throw new IllegalArgumentException("level, time or window is out of range");
        }
        return Math.floorMod(time + 1, level) == 0 && Math.floorMod(window, level) == 0;
    }

    public boolean down(boolean down) {
        boolean before = store.copyDown;
        store.copyDown = down;
        return before;
    }

    public int behind() {
        return store.countNotCopied();
    }

    public int mend(int many) throws IllegalArgumentException {
        if (!isWithin(many, 1, 1000)) {
            throw new IllegalArgumentException("many is out of range");
        }
        return store.copyFirst(many);
    }

    // ---- what the calls share

    private static boolean isWithin(int number, int least, int greatest) {
        return number >= least && number <= greatest;
    }

    private static boolean isLevel(int level) {
        return level == 10 || level == 100;
    }

    private static boolean isFirstFit(int what, int one) {
        if (what == NUMBER) {
            return isWithin(one, -MAX_VALUE, MAX_VALUE);
        }
        if (Word.reads(what)) {
            return isWithin(one, 0, SELECTORS - 1);
        }
        return isWithin(one, 0, what == QUANTILE ? 1000 : 7);
    }

    private static boolean isSecondFit(int what, int two) {
        return !Word.reads(what) || isWithin(two, what == AT ? 0 : 1, MAX_WINDOW);
    }

    private Series seriesOf(int number) {
        if (!isWithin(number, 0, store.numbered.size() - 1)) {
            throw new IndexOutOfBoundsException("no such series");
        }
        return store.numbered.get(number);
    }

    private Selector selectorOf(int number) {
        if (!isWithin(number, 0, selectors.size() - 1)) {
            throw new IndexOutOfBoundsException("no such selector");
        }
        return selectors.get(number);
    }

    private boolean isAlert(int number) {
        return isWithin(number, 0, rules.size() - 1) && !rules.get(number).records();
    }

    private Rule alertOf(int number) {
        if (!isWithin(number, 0, rules.size() - 1) || rules.get(number).records()) {
            throw new IndexOutOfBoundsException("no such alert");
        }
        return rules.get(number);
    }

    private int resultsLeft() {
        int left = 0;
        for (int i = 0; i < draft.size(); i++) {
            left += 1 - Word.needs(draft.get(i).what);
        }
        return left;
    }

    private void addRule(int two, int wait, int keep) {
        rules.add(new Rule(draft, two, wait, keep));
        draft = new ArrayList<Word>();
    }

    private void goThroughRules() {
        for (int i = 0; i < rules.size(); i++) {
            Rule rule = rules.get(i);
            Result result = pile.reckon(rule.words, store.numbered, now);
            if (rule.records()) {
                writeResult(result, rule.two);
            } else {
                rule.look(result, now);
                tellOf(rule, i);
            }
        }
    }

    private void writeResult(Result result, int two) {
        if (result == null) {
            return;
        }
        for (int i = 0; i < result.size; i++) {
            long whole = result.values[i] / 1000;
            long value = Math.max(-MAX_VALUE, Math.min(MAX_VALUE, whole));
            store.take(result.labels[i] / 10 * 10 + two, now, (int) value);
        }
    }

    private void tellOf(Rule alert, int number) {
        for (int i = 0; i < alert.found.size(); i++) {
            Entry entry = alert.found.get(i);
            if (entry.firing && !entry.told && !isInhibited(alert, entry) && !isSilenced(entry)) {
                entry.told = true;
                keepNotice(number, entry.labels);
            }
        }
    }

    private boolean isInhibited(Rule alert, Entry entry) {
        if (!isAlert(alert.inhibitor)) {
            return false;
        }
        ArrayList<Entry> others = rules.get(alert.inhibitor).found;
        for (int i = 0; i < others.size(); i++) {
            Entry other = others.get(i);
            if (other.firing && other.labels / 100 == entry.labels / 100) {
                return true;
            }
        }
        return false;
    }

    private boolean isSilenced(Entry entry) {
        for (int i = 0; i < silenced.size() && i < silencedUntil.length; i++) {
            if (now <= silencedUntil[i] && silenced.get(i).selects(entry.labels)) {
                return true;
            }
        }
        return false;
    }

    private void keepNotice(int number, int labels) {
        int place = tellings * FACTS_OF_A_NOTICE;
        tellings++;
        if (isWithin(place, 0, noticed.length - FACTS_OF_A_NOTICE)) {
            noticed[place] = number;
            noticed[place + 1] = labels;
            noticed[place + 2] = now;
        }
    }

    /** A sample that was written; erased ones hang in the chain of the erasing that hid them. */
    private static final class Sample {
        final Series series;
        final int time;
        final int value;
        final int order;
        boolean copied;
        Sample next = null;

        Sample(Series series, int time, int value, int order, boolean copied) {
            this.series = series;
            this.time = time;
            this.value = value;
            this.order = order;
            this.copied = copied;
        }
    }

    /** A record of the log: the sample that was written, or the first one that was erased. */
    private static final class Logged {
        final Sample sample;
        final boolean erasing;

        Logged(Sample sample, boolean erasing) {
            this.sample = sample;
            this.erasing = erasing;
        }
    }

    /** A series with its samples that are seen, by time, and its blocks as they were flushed. */
    private static final class Series {
        final int labels;
        final ArrayList<Sample> seen = new ArrayList<Sample>();
        // A series has at most as many blocks as samples that are seen.
        private final int[] hundreds = new int[MAX_SEEN];
        private final int[] packedBits = new int[MAX_SEEN];
        private int blocks = 0;

        Series(int labels) {
            this.labels = labels;
        }

        /** How many samples that are seen lie ahead of a time. */
        int countAhead(int time) {
            int count = seen.size();
            while (count > 0 && seen.get(count - 1).time >= time) {
                count--;
            }
            return count;
        }

        void show(Sample sample) {
            seen.add(countAhead(sample.time), sample);
        }

        void forget(Sample sample) {
            int place = countAhead(sample.time);
            if (place < seen.size() && seen.get(place) == sample) {
                seen.remove(place);
            }
        }

        void forgetAheadOf(int time) {
            for (int i = countAhead(time) - 1; i >= 0; i--) {
                seen.remove(i);
            }
        }

        /** What a new sample of the series is by those that are seen. */
        int judge(int time, int value) {
            int place = countAhead(time);
            if (place < seen.size() && seen.get(place).time == time) {
                return seen.get(place).value == value ? DOUBLED : CONFLICT;
            }
            int last = seen.size() - 1;
            if (last >= 0 && seen.get(last).time - time > LATE_BEYOND) {
                return LATE;
            }
            return GOOD;
        }

        /** The latest sample at a time or ahead, null if it is too far ahead. */
        Sample latest(int time) {
            int place = countAhead(time + 1) - 1;
            if (place < 0 || time - seen.get(place).time > AT_REACHES) {
                return null;
            }
            return seen.get(place);
        }

        int packBlocks() {
            blocks = 0;
            int distance = 0;
            for (int i = 0; i < seen.size(); i++) {
                Sample sample = seen.get(i);
                int hundred = sample.time / 100;
                if (i == 0 || seen.get(i - 1).time / 100 != hundred) {
                    openBlock(hundred);
                    distance = 0;
                } else {
                    Sample ahead = seen.get(i - 1);
                    int further = sample.time - ahead.time;
                    growBlock(bitsOfTime(further - distance) + bitsOfValue(sample.value ^ ahead.value));
                    distance = further;
                }
            }
            return blocks;
        }

        private void openBlock(int hundred) {
            if (blocks < hundreds.length && blocks < packedBits.length) {
                hundreds[blocks] = hundred;
                packedBits[blocks] = 64;
                blocks++;
            }
        }

        private void growBlock(int more) {
            if (blocks > 0 && blocks <= packedBits.length) {
                packedBits[blocks - 1] += more;
            }
        }

        private static int bitsOfTime(int difference) {
            if (difference == 0) {
                return 1;
            }
            if (isWithin(difference, -63, 64)) {
                return 9;
            }
            return isWithin(difference, -255, 256) ? 12 : 36;
        }

        private static int bitsOfValue(int unlike) {
            if (unlike == 0) {
                return 1;
            }
            int highest = 31;
            while (highest > 0 && (unlike >>> highest & 1) == 0) {
                highest--;
            }
            int lowest = 0;
            while (lowest < highest && (unlike >>> lowest & 1) == 0) {
                lowest++;
            }
            return 12 + highest - lowest + 1;
        }

        /** The bits of a block, NONE if there is no such block. */
        int bitsOfBlock(int hundred) {
            for (int i = 0; i < blocks && i < hundreds.length && i < packedBits.length; i++) {
                if (hundreds[i] == hundred) {
                    return packedBits[i];
                }
            }
            return NONE;
        }
    }

    /** All series, the log, and what the copy has. */
    private static final class Store {
        final ArrayList<Series> numbered = new ArrayList<Series>();
        final ArrayList<Logged> records = new ArrayList<Logged>();
        boolean copyDown = false;
        private int written = 0;

        int take(int labels, int time, int value) {
            Series series = find(labels);
            if (series == null && numbered.size() >= MAX_SERIES) {
                return FULL;
            }
            int judged = series == null ? GOOD : series.judge(time, value);
            if (judged != GOOD) {
                return judged;
            }
            if (countSeen(labels / 100) >= MAX_SEEN) {
                return OVER;
            }
            if (series == null) {
                series = new Series(labels);
                numbered.add(series);
            }
            Sample sample = new Sample(series, time, value, written, !copyDown);
            written++;
            series.show(sample);
            records.add(new Logged(sample, false));
            return GOOD;
        }

        private Series find(int labels) {
            for (int i = 0; i < numbered.size(); i++) {
                if (numbered.get(i).labels == labels) {
                    return numbered.get(i);
                }
            }
            return null;
        }

        private int countSeen(int zero) {
            int count = 0;
            for (int i = 0; i < numbered.size(); i++) {
                Series series = numbered.get(i);
                if (series.labels / 100 == zero) {
                    count += series.seen.size();
                }
            }
            return count;
        }

        int countSelected(Selector selector) {
            int count = 0;
            for (int i = 0; i < numbered.size(); i++) {
                if (selector.selects(numbered.get(i).labels)) {
                    count++;
                }
            }
            return count;
        }

        int hide(Selector selector, int from, int to) {
            Sample first = null;
            int count = 0;
            for (int i = 0; i < numbered.size(); i++) {
                Series series = numbered.get(i);
                if (!selector.selects(series.labels)) {
                    continue;
                }
                int begin = series.countAhead(from);
                for (int k = series.countAhead(to + 1) - 1; k >= begin; k--) {
                    Sample sample = series.seen.remove(k);
                    sample.next = first;
                    first = sample;
                    count++;
                }
            }
            records.add(new Logged(first, true));
            return count;
        }

        int tearOff(int many) {
            for (int i = 0; i < many && !records.isEmpty(); i++) {
                takeBack(records.remove(records.size() - 1));
            }
            return records.size();
        }

        private void takeBack(Logged record) {
            Sample sample = record.sample;
            if (!record.erasing && sample != null) {
                sample.series.forget(sample);
                return;
            }
            while (sample != null) {
                Sample next = sample.next;
                sample.next = null;
                sample.series.show(sample);
                sample = next;
            }
        }

        int packAll(int oldest) {
            int count = 0;
            for (int i = 0; i < numbered.size(); i++) {
                Series series = numbered.get(i);
                series.forgetAheadOf(oldest);
                count += series.packBlocks();
            }
            records.clear();
            return count;
        }

        int countNotCopied() {
            int count = 0;
            for (int i = 0; i < numbered.size(); i++) {
                ArrayList<Sample> seen = numbered.get(i).seen;
                for (int k = 0; k < seen.size(); k++) {
                    if (!seen.get(k).copied) {
                        count++;
                    }
                }
            }
            return count;
        }

        int copyFirst(int many) {
            int count = 0;
            Sample first = firstNotCopied();
            while (count < many && first != null) {
                first.copied = true;
                count++;
                first = firstNotCopied();
            }
            return count;
        }

        private Sample firstNotCopied() {
            Sample first = null;
            for (int i = 0; i < numbered.size(); i++) {
                ArrayList<Sample> seen = numbered.get(i).seen;
                for (int k = 0; k < seen.size(); k++) {
                    Sample sample = seen.get(k);
                    if (!sample.copied && (first == null || sample.order < first.order)) {
                        first = sample;
                    }
                }
            }
            return first;
        }
    }

    /** A set of values for each label. */
    private static final class Selector {
        private final int zero;
        private final int one;
        private final int two;

        Selector(int zero, int one, int two) {
            this.zero = zero;
            this.one = one;
            this.two = two;
        }

        boolean selects(int labels) {
            int bits = zero >>> labels / 100 & one >>> labels / 10 % 10 & two >>> labels % 10;
            return (bits & 1) == 1;
        }
    }

    /** A word of an expression, with the selector as it was when the word was put. */
    private static final class Word {
        final int what;
        final int one;
        final int two;
        final Selector selector;

        Word(int what, int one, int two, Selector selector) {
            this.what = what;
            this.one = one;
            this.two = two;
            this.selector = selector;
        }

        static boolean reads(int what) {
            return isWithin(what, AT, RATE);
        }

        static boolean joins(int what) {
            return isWithin(what, PLUS, ABOVE);
        }

        /** How many results a word takes from the pile; each word puts one on it. */
        static int needs(int what) {
            if (what == NUMBER || reads(what)) {
                return 0;
            }
            return joins(what) ? 2 : 1;
        }
    }

    /** A number, or values for labels in their order. */
    private static final class Result {
        // A value goes back to a series of its own, so there are no more than series.
        final int[] labels = new int[MAX_SERIES];
        final long[] values = new long[MAX_SERIES];
        int size = 0;
        boolean number = false;

        void becomeVector() {
            size = 0;
            number = false;
        }

        void becomeNumber(long value) {
            size = 0;
            put(ALL_WITHOUT, value);
            number = true;
        }

        /** The number, 0 for a vector. */
        long single() {
            return number && size > 0 ? values[0] : 0;
        }

        int find(int wanted) {
            for (int i = 0; i < size; i++) {
                if (labels[i] == wanted) {
                    return i;
                }
            }
            return NONE;
        }

        void put(int label, long value) {
            if (size >= labels.length || size >= values.length) {
                return;
            }
            int place = size;
            while (place > 0 && labels[place - 1] > label) {
                labels[place] = labels[place - 1];
                values[place] = values[place - 1];
                place--;
            }
            labels[place] = label;
            values[place] = value;
            size++;
        }

        void keepInBounds() {
            for (int i = 0; i < size; i++) {
                values[i] = Math.max(-MAX_RESULT, Math.min(MAX_RESULT, values[i]));
            }
        }
    }

    /** What can be told of the samples of a series that are seen, and not STALE, in some times. */
    private static final class Window {
        int count = 0;
        private int first = 0;
        private int last = 0;
        private int latest = 0;
        private int total = 0;
        private int least = 0;
        private int greatest = 0;
        private long smooth = 0;
        private long increase = 0;

        void gather(Series series, int from, int to) {
            count = 0;
            int end = series.countAhead(to + 1);
            for (int i = series.countAhead(from); i < end; i++) {
                Sample sample = series.seen.get(i);
                if (sample.value != STALE) {
                    include(sample.time, sample.value);
                }
            }
        }

        private void include(int time, int value) {
            if (count == 0) {
                begin(time, value);
            } else {
                least = Math.min(least, value);
                greatest = Math.max(greatest, value);
                smooth += (1000L * value - smooth) / 2;
                // A fall is a reset: what has come since then counts from 0.
                increase += value < latest ? Math.max(value, 0) : value - latest;
                total += value;
            }
            count++;
            last = time;
            latest = value;
        }

        private void begin(int time, int value) {
            first = time;
            least = value;
            greatest = value;
            smooth = 1000L * value;
            increase = 0;
            total = value;
        }

        boolean canTell(int what) {
            return count >= (what == RATE ? 2 : 1);
        }

        /** Thousandths of what a word asks of the window of some length up to a time. */
        long tellOf(int what, int length, int time) {
            switch (what) {
                case COUNT:
                    return 1000L * count;
                case TOTAL:
                    return 1000L * total;
                case LEAST:
                    return 1000L * least;
                case GREATEST:
                    return 1000L * greatest;
                case SMOOTH:
                    return smooth;
                default:
                    return rate(length, time);
            }
        }

        private long rate(int length, int time) {
            long distance = last - first;
            if (count < 2 || distance <= 0 || length <= 0) {
                return 0;
            }
            long reach = distance / (count - 1) / 2;
            long longer = distance + Math.min(first - (time - length), reach) + Math.min(time - last, reach);
            return 1000 * increase * longer / (distance * length);
        }

        int tellThinned(int what) {
            if (count == 0) {
                return 0;
            }
            switch (what) {
                case 0:
                    return count;
                case 1:
                    return total;
                case 2:
                    return least;
                default:
                    return greatest;
            }
        }
    }

    /** The pile of results that the words of an expression work on. */
    private static final class Pile {
        private final ArrayList<Result> rows = new ArrayList<Result>();
        private final Window window = new Window();
        private Result spare = new Result();
        private int height = 0;

        Pile() {
            for (int i = 0; i < MAX_WORDS; i++) {
                rows.add(new Result());
            }
        }

        /** The one result of the words for a time, null if the expression fails. */
        Result reckon(ArrayList<Word> words, ArrayList<Series> all, int time) {
            height = 0;
            for (int i = 0; i < words.size(); i++) {
                Word word = words.get(i);
                int needed = Word.needs(word.what);
                if (height < needed || height - needed >= rows.size()) {
                    return null;
                }
                height += 1 - needed;
                if (!goThrough(word, all, time)) {
                    return null;
                }
            }
            return height == 1 && !rows.isEmpty() ? rows.get(0) : null;
        }

        /** Puts the result of a word on top, where those that it takes began. */
        private boolean goThrough(Word word, ArrayList<Series> all, int time) {
            int top = height - 1;
            if (top < 0 || top >= rows.size()) {
                return false;
            }
            Result lower = rows.get(top);
            boolean fine = true;
            if (word.what == NUMBER) {
                spare.becomeNumber(word.one);
            } else if (Word.reads(word.what)) {
                read(word, all, time);
            } else if (word.what == QUANTILE) {
                takeQuantiles(lower, word.one);
            } else if (!Word.joins(word.what)) {
                fold(lower, word);
            } else {
                fine = top + 1 < rows.size() && join(word, lower, rows.get(top + 1));
            }
            spare.keepInBounds();
            rows.set(top, spare);
            spare = lower;
            return fine;
        }

        private void read(Word word, ArrayList<Series> all, int time) {
            spare.becomeVector();
            for (int i = 0; i < all.size(); i++) {
                Series series = all.get(i);
                if (!word.selector.selects(series.labels)) {
                    continue;
                }
                if (word.what == AT) {
                    Sample sample = series.latest(time - word.two);
                    if (sample != null && sample.value != STALE) {
                        spare.put(series.labels, 1000L * sample.value);
                    }
                    continue;
                }
                window.gather(series, time - word.two + 1, time);
                if (window.canTell(word.what)) {
                    spare.put(series.labels, window.tellOf(word.what, word.two, time));
                }
            }
        }

        /** SUM or MOST of those with the same labels of a set. */
        private void fold(Result from, Word word) {
            if (from.number) {
                spare.becomeNumber(from.single());
                return;
            }
            spare.becomeVector();
            for (int i = 0; i < from.size; i++) {
                int labels = only(from.labels[i], word.one);
                int place = spare.find(labels);
                if (place == NONE) {
                    spare.put(labels, from.values[i]);
                } else if (word.what == SUM) {
                    spare.values[place] += from.values[i];
                } else {
                    spare.values[place] = Math.max(spare.values[place], from.values[i]);
                }
            }
        }

        /** Labels of a set, the others being without. */
        private static int only(int labels, int set) {
            int zero = (set & 1) != 0 ? labels / 100 : WITHOUT;
            int one = (set & 2) != 0 ? labels / 10 % 10 : WITHOUT;
            int two = (set & 4) != 0 ? labels % 10 : WITHOUT;
            return 100 * zero + 10 * one + two;
        }

        private boolean join(Word word, Result lower, Result upper) {
            if (lower.number && upper.number) {
                return joinNumbers(word.what, lower.single(), upper.single());
            }
            spare.becomeVector();
            if (lower.number) {
                for (int i = 0; i < upper.size; i++) {
                    joinValues(word.what, lower.single(), upper.values[i], upper.labels[i], upper.values[i]);
                }
                return true;
            }
            for (int i = 0; i < lower.size; i++) {
                int place = upper.number ? 0 : findSame(upper, lower.labels[i], word.one);
                if (place >= upper.size) {
                    return false;
                }
                if (place >= 0) {
                    joinValues(word.what, lower.values[i], upper.values[place], lower.labels[i], lower.values[i]);
                }
            }
            return true;
        }

        private boolean joinNumbers(int what, long lower, long upper) {
            if (what == ABOVE) {
                spare.becomeNumber(lower > upper ? 1000 : 0);
                return true;
            }
            spare.becomeNumber(reckonValue(what, lower, upper));
            return what != PER || upper != 0;
        }

        private void joinValues(int what, long lower, long upper, int labels, long kept) {
            if (what == ABOVE) {
                if (lower > upper) {
                    spare.put(labels, kept);
                }
            } else if (what != PER || upper != 0) {
                spare.put(labels, reckonValue(what, lower, upper));
            }
        }

        /** A value that may still be outside the bounds; 0 for what can't be divided. */
        private static long reckonValue(int what, long lower, long upper) {
            switch (what) {
                case PLUS:
                    return lower + upper;
                case MINUS:
                    return lower - upper;
                case TIMES:
                    return multiply(lower, upper);
                default:
                    return upper == 0 ? 0 : lower * 1000 / upper;
            }
        }

        /** A product can be greater than a long, so it is made of parts and ends at the bound. */
        private static long multiply(long lower, long upper) {
            long one = lower < 0 ? -lower : lower;
            long other = upper < 0 ? -upper : upper;
            long whole = one / 1000;
            long product = MAX_RESULT;
            if (whole == 0 || other <= MAX_RESULT / whole) {
                product = whole * other + one % 1000 * other / 1000;
            }
            return lower < 0 == upper < 0 ? product : -product;
        }

        /** Where a vector has the same labels of a set: NONE without, its size if there are several. */
        private static int findSame(Result vector, int labels, int set) {
            int wanted = only(labels, set);
            int place = NONE;
            for (int i = 0; i < vector.size; i++) {
                if (only(vector.labels[i], set) == wanted) {
                    if (place != NONE) {
                        return vector.size;
                    }
                    place = i;
                }
            }
            return place;
        }

        private void takeQuantiles(Result from, int share) {
            spare.becomeVector();
            int begin = 0;
            while (begin < from.size) {
                int end = begin + 1;
                while (end < from.size && from.labels[end] / 10 == from.labels[begin] / 10) {
                    end++;
                }
                // Those without a label 2 come last, and don't count.
                int counted = from.labels[end - 1] % 10 == WITHOUT ? end - 1 : end;
                if (!from.number) {
                    takeQuantile(from, begin, counted, share);
                }
                begin = end;
            }
        }

        private void takeQuantile(Result from, int begin, int end, int share) {
            long greatest = 0;
            for (int i = begin; i < end; i++) {
                greatest = Math.max(greatest, from.values[i]);
            }
            if (greatest <= 0) {
                return;
            }
            long rank = share * greatest / 1000;
            int place = begin;
            while (place < end - 1 && from.values[place] < rank) {
                place++;
            }
            int labels = from.labels[begin] / 10 * 10 + WITHOUT;
            long ahead = place > begin ? from.values[place - 1] : 0;
            long bound = place > begin ? boundOf(from.labels[place - 1] % 10) : 0;
            long rise = from.values[place] - ahead;
            int two = from.labels[place] % 10;
            if (two < BOUNDS.length && rise > 0) {
                bound += (boundOf(two) - bound) * (rank - ahead) / rise;
            }
            spare.put(labels, bound);
        }

        private static long boundOf(int two) {
            return two >= 0 && two < BOUNDS.length ? BOUNDS[two] : 0;
        }
    }

    /** An entry of an alert. */
    private static final class Entry {
        final int labels;
        boolean firing = false;
        boolean told = false;
        int since;
        int last;

        Entry(int labels, int since) {
            this.labels = labels;
            this.since = since;
            this.last = since;
        }

        void fire(int now) {
            firing = true;
            told = false;
            since = now;
        }

        int tell(int what) {
            switch (what) {
                case 0:
                    return labels;
                case 1:
                    return firing ? FIRING : WAITING;
                case 2:
                    return since;
                default:
                    return told ? 1 : 0;
            }
        }
    }

    /** A rule that records with a label 2, or an alert, whose label 2 is NONE. */
    private static final class Rule {
        final ArrayList<Word> words;
        final int two;
        private final int wait;
        private final int keep;
        final ArrayList<Entry> found = new ArrayList<Entry>();
        int inhibitor = NONE;

        Rule(ArrayList<Word> words, int two, int wait, int keep) {
            this.words = words;
            this.two = two;
            this.wait = wait;
            this.keep = keep;
        }

        boolean records() {
            return two != NONE;
        }

        /** Looks at a result, null if the expression failed. */
        void look(Result result, int now) {
            boolean any = result != null && (!result.number || result.single() > 0);
            for (int i = found.size() - 1; i >= 0; i--) {
                Entry entry = found.get(i);
                if (any && result.find(entry.labels) != NONE) {
                    entry.last = now;
                } else if (!entry.firing || now - entry.last > keep) {
                    found.remove(i);
                }
            }
            if (any) {
                addNew(result, now);
            }
            for (int i = 0; i < found.size(); i++) {
                Entry entry = found.get(i);
                if (!entry.firing && now - entry.since >= wait) {
                    entry.fire(now);
                }
            }
        }

        private void addNew(Result result, int now) {
            int place = 0;
            for (int i = 0; i < result.size; i++) {
                int labels = result.labels[i];
                while (place < found.size() && found.get(place).labels < labels) {
                    place++;
                }
                if (place >= found.size() || found.get(place).labels != labels) {
                    found.add(place, new Entry(labels, now));
                }
            }
        }
    }
}
