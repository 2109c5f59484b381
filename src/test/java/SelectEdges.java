/** Boundary cases of selectors, of the draft and of what is told of an asked one: ASKING, the promises 13 to 18. */
final class SelectEdges extends Due {
    // ---- ASKING

    @Sentence(under = "ASKING", says = "There are the selectors 0 to 3, each with a set of values for each label, told as the sum of 2 to the power of each, 6 being without;")
    static void eachValueIsAPowerOf2() {
        for (int label = 0; label < 3; label++) {
            Ticksilo x = new Ticksilo();
            int unit = label == 0 ? 100 : label == 1 ? 10 : 1;
            for (int v = 0; v <= 6; v++) put(x, 333 + (v - 3) * unit, 0, v);
            for (int v = 0; v <= 6; v++) {
                int[] sets = {ALL, ALL, ALL};
                sets[label] = 1 << v;
                due(x.select(3, sets[0], sets[1], sets[2]), 1);
                due(told(x, 0, AT, 3, 0), String.format("%03d=%d", 333 + (v - 3) * unit, 1000 * v));
                sets[label] = ALL - (1 << v);
                due(x.select(3, sets[0], sets[1], sets[2]), 6);
            }
        }
    }

    @Sentence(under = "ASKING", says = "There are the selectors 0 to 3")
    static void selectorsAreOnTheirOwn() {
        Ticksilo x = of(0, 1, 1, 2, 2, 3, 3, 4);
        for (int s = 0; s <= 3; s++) due(x.select(s, ALL, ALL, 1 << s), 1);
        for (int s = 0; s <= 3; s++) due(told(x, 0, AT, s, 0), "00" + s + "=" + (s + 1) * 1000);
        index(() -> x.select(4, ALL, ALL, ALL));
    }

    @Sentence(under = "ASKING", says = "all values at first.")
    static void selectorsSelectAllAtFirst() {
        Ticksilo x = of(0, 1, 555, 2, 666, 3);
        for (int s = 0; s <= 3; s++) due(told(x, 0, AT, s, 0), "000=1000 555=2000 666=3000");
        due(x.erase(3, 0, 0), 3);
        x.crash(1);
        due(x.erase(0, 0, 0), 3);
    }

    @Sentence(under = "ASKING", says = "It selects the series that have one of these in each label.")
    static void itSelectsByEachLabel() {
        Ticksilo x = of(123, 0, 124, 0, 133, 0, 223, 0, 666, 0);
        due(x.select(0, 2, 4, 8), 1);
        due(x.labels(0), 123);
        due(x.select(0, 2, 4, 8 + 16), 2);
        due(x.select(0, 2, 4 + 8, 8), 2);
        due(x.select(0, 2 + 4, 4, 8), 2);
        due(x.select(0, 64, 64, 64), 1);
        due(x.select(0, 64, 64, 8), 0);
        due(x.select(0, 0, ALL, ALL), 0);
        due(x.select(0, ALL, 0, ALL), 0);
        due(x.select(0, ALL, ALL, 0), 0);
        due(told(x, 0, AT, 0, 0), "");
        due(x.erase(0, 0, LAST), 0);
    }

    @Sentence(under = "ASKING", says = "An expression is a row of words that is gone through with a pile of results, for a time t.")
    static void wordsWorkOnTheUppermostResults() {
        Ticksilo x = new Ticksilo();
        // 10 less (7 less 2) is 5; (10 less 7) less 2 is 1.
        due(told(x, 0, NUMBER, 10, 0, NUMBER, 7, 0, NUMBER, 2, 0, MINUS, 0, 0, MINUS, 0, 0), "666=5");
        due(told(x, 0, NUMBER, 10, 0, NUMBER, 7, 0, MINUS, 0, 0, NUMBER, 2, 0, MINUS, 0, 0), "666=1");
        // As high as ten words can pile: five numbers, then joined; and six can't be joined any more.
        due(told(x, 0, NUMBER, 1, 0, NUMBER, 2, 0, NUMBER, 3, 0, NUMBER, 4, 0, NUMBER, 5, 0,
            PLUS, 0, 0, PLUS, 0, 0, PLUS, 0, 0, PLUS, 0, 0, SUM, 0, 0), "666=15");
        draft(x, NUMBER, 1, 0, NUMBER, 1, 0, NUMBER, 1, 0, NUMBER, 1, 0, NUMBER, 1, 0,
            NUMBER, 1, 0, NUMBER, 1, 0, NUMBER, 1, 0, NUMBER, 1, 0, NUMBER, 1, 0);
        state(() -> x.ask(0));
        due(x.clear(), 10);
    }

    @Sentence(under = "ASKING", says = "A result is a number, or a vector: values for labels, in order.")
    static void vectorsFromNoneTo12Values() {
        Ticksilo x = new Ticksilo();
        due(told(x, 0, AT, 0, 0), "");
        StringBuilder all = new StringBuilder();
        for (int i = 11; i >= 0; i--) x.write(i / 6, i % 6, 6, 0, i);
        for (int i = 0; i < 12; i++) all.append(i == 0 ? "" : " ").append(String.format("%02d6=%d", 10 * (i / 6) + i % 6, 1000 * i));
        due(told(x, 0, AT, 0, 0), all.toString());
        due(told(x, 0, AT, 0, 0, SUM, 7, 0), all.toString());
        due(told(x, 0, AT, 0, 0, AT, 0, 0, ABOVE, 7, 0), "");
        due(told(x, 0, NUMBER, 3, 0), "666=3");
    }

    // ---- Promise 13 to 18

    @Sentence(under = "Promise 13", says = "Sets a selector. selector: 0 to 3")
    static void theSelectorIs0To3() {
        Ticksilo x = of(0, 1);
        due(x.select(0, 1, 1, 1), 1);
        due(x.select(3, 1, 1, 1), 1);
        indexesOutside(0, 3, s -> x.select(s, 1, 1, 1));
        due(x.select(1, 2, 1, 1), 0);
    }

    @Sentence(under = "Promise 13", says = "zero: 0 to 127")
    static void zeroIs0To127() {
        Ticksilo x = of(0, 1, 666, 1);
        argumentsOutside(0, 127, set -> x.select(0, set, ALL, ALL));
        due(x.select(0, 0, ALL, ALL), 0);
        due(x.select(0, 1, ALL, ALL), 1);
        due(x.select(0, 126, ALL, ALL), 1);
        due(x.select(0, 127, ALL, ALL), 2);
    }

    @Sentence(under = "Promise 13", says = "one: 0 to 127")
    static void oneIs0To127() {
        Ticksilo x = of(0, 1, 666, 1);
        argumentsOutside(0, 127, set -> x.select(0, ALL, set, ALL));
        due(x.select(0, ALL, 0, ALL), 0);
        due(x.select(0, ALL, 1, ALL), 1);
        due(x.select(0, ALL, 126, ALL), 1);
        due(x.select(0, ALL, 127, ALL), 2);
    }

    @Sentence(under = "Promise 13", says = "two: 0 to 127")
    static void twoIs0To127() {
        Ticksilo x = of(0, 1, 666, 1);
        argumentsOutside(0, 127, set -> x.select(0, ALL, ALL, set));
        due(x.select(0, ALL, ALL, 0), 0);
        due(x.select(0, ALL, ALL, 1), 1);
        due(x.select(0, ALL, ALL, 126), 1);
        due(x.select(0, ALL, ALL, 127), 2);
    }

    @Sentence(under = "Promise 13", says = "Returns how many series it selects.")
    static void itSelectsFromNoneTo12() {
        Ticksilo x = new Ticksilo();
        due(x.select(0, ALL, ALL, ALL), 0);
        for (int i = 0; i < 12; i++) {
            x.write(i % 6, i / 6, 6, 0, 0);
            due(x.select(0, ALL, ALL, ALL), i + 1);
        }
        due(x.select(0, ALL, 1, 64), 6);
        // Series without samples that are seen are selected too.
        x.erase(0, 0, 0);
        due(x.select(0, ALL, 1, 64), 6);
    }

    @Sentence(under = "Promise 13", says = "Throws IndexOutOfBoundsException if there is no such selector")
    static void noSelector4() {
        Ticksilo x = of(0, 1);
        index(() -> x.select(4, 0, 0, 0));
        index(() -> x.select(-1, 0, 0, 0));
        due(told(x, 0, AT, 3, 0), "000=1000");
    }

    @Sentence(under = "Promise 13", says = "Throws IllegalArgumentException if zero, one or two is out of range")
    static void setsOutOfRangeAreRefused() {
        Ticksilo x = of(0, 1);
        argument(() -> x.select(0, 128, 0, 0));
        argument(() -> x.select(0, 0, -1, 0));
        argument(() -> x.select(0, 0, 0, 128));
        argument(() -> x.select(3, 128, 128, 128));
        due(told(x, 0, AT, 0, 0), "000=1000");
    }

    @Sentence(under = "Promise 14", says = "Puts a word at the end of the draft.")
    static void wordsStandInTheOrderInWhichTheyWerePut() {
        Ticksilo x = new Ticksilo();
        due(x.word(NUMBER, 3, 0), 1);
        due(x.word(NUMBER, 2, 0), 2);
        due(x.word(MINUS, 0, 0), 3);
        due(x.ask(0), 1);
        due(x.value(0), 1);
    }

    @Sentence(under = "Promise 14", says = "Selectors count as they are when the word is put.")
    static void selectorsCountAsWhenTheWordWasPut() {
        Ticksilo x = of(0, 1, 1, 2);
        x.select(0, ALL, ALL, 1);
        draft(x, AT, 0, 0);
        x.select(0, ALL, ALL, 2);
        due(x.ask(0), 1);
        due(x.labelsOf(0), 0);
        x.record(3);
        draft(x, AT, 0, 0);
        x.select(0, 0, 0, 0);
        due(x.ask(0), 1);
        due(x.labelsOf(0), 1);
        x.pass(10);
        due(x.labels(2), 3);
        due(told(x, 10, AT, 1, 0), "000=1000 001=2000 003=1000");
    }

    @Sentence(under = "Promise 14", says = "what: NUMBER to QUANTILE")
    static void whatIsNumberToQuantile() {
        Ticksilo x = new Ticksilo();
        argumentsOutside(NUMBER, QUANTILE, what -> x.word(what, 0, 1));
        for (int what = NUMBER; what <= RATE; what++) due(x.word(what, 0, 1), what + 1);
        x.clear();
        draft(x, NUMBER, 0, 0, NUMBER, 0, 0, NUMBER, 0, 0, NUMBER, 0, 0);
        argumentsOutside(NUMBER, QUANTILE, what -> x.word(what, 0, 1));
        due(x.word(SUM, 0, 1), 5);
        due(x.word(MOST, 0, 1), 6);
        due(x.word(QUANTILE, 0, 1), 7);
        for (int what = PLUS; what <= TIMES; what++) due(x.word(what, 0, 1), what - 2);
        draft(x, NUMBER, 0, 0, NUMBER, 0, 0, NUMBER, 0, 0);
        due(x.word(PER, 0, 1), 4);
        due(x.word(ABOVE, 0, 1), 5);
    }

    @Sentence(under = "Promise 14", says = "one: NUMBER: -1000000 to 1000000 thousandths;")
    static void numbersUpToAMillion() {
        Ticksilo x = new Ticksilo();
        argumentsOutside(-1000000, 1000000, one -> x.word(NUMBER, one, 0));
        int[] fine = {-1000000, -999999, -1, 0, 1, 999999, 1000000};
        for (int one : fine) due(told(x, 0, NUMBER, one, 0), "666=" + one);
    }

    @Sentence(under = "Promise 14", says = "AT to RATE: 0 to 3;")
    static void wordsTakeTheSelectors0To3() {
        Ticksilo x = new Ticksilo();
        for (int what = AT; what <= RATE; what++) {
            int w = what;
            argumentsOutside(0, 3, one -> x.word(w, one, 1));
            due(x.clear(), 0);
            for (int one = 0; one <= 3; one++) due(x.word(what, one, 1), one + 1);
            x.clear();
        }
    }

    @Sentence(under = "Promise 14", says = "SUM to ABOVE: 0 to 7;")
    static void setsOfLabelsAre0To7() {
        Ticksilo x = new Ticksilo();
        for (int what = SUM; what <= ABOVE; what++) {
            int w = what;
            draft(x, NUMBER, 1, 0, NUMBER, 1, 0, NUMBER, 1, 0);
            argumentsOutside(0, 7, one -> x.word(w, one, 0));
            due(x.word(what, 0, 0), 4);
            due(x.word(what, 7, 0), 5);
        }
    }

    @Sentence(under = "Promise 14", says = "QUANTILE: 0 to 1000")
    static void quantilesAre0To1000() {
        Ticksilo x = new Ticksilo();
        draft(x, AT, 0, 0);
        argumentsOutside(0, 1000, one -> x.word(QUANTILE, one, 0));
        due(x.word(QUANTILE, 0, 0), 2);
        due(x.word(QUANTILE, 1, 0), 3);
        due(x.word(QUANTILE, 999, 0), 4);
        due(x.word(QUANTILE, 1000, 0), 5);
    }

    @Sentence(under = "Promise 14", says = "two: AT: 0 to 1000;")
    static void offsetsAre0To1000() {
        Ticksilo x = new Ticksilo();
        argumentsOutside(0, 1000, two -> x.word(AT, 0, two));
        due(x.word(AT, 0, 0), 1);
        due(x.word(AT, 0, 1), 2);
        due(x.word(AT, 0, 999), 3);
        due(x.word(AT, 0, 1000), 4);
    }

    @Sentence(under = "Promise 14", says = "COUNT to RATE: 1 to 1000;")
    static void windowsAre1To1000() {
        Ticksilo x = new Ticksilo();
        for (int what = COUNT; what <= RATE; what++) {
            int w = what;
            argumentsOutside(1, 1000, two -> x.word(w, 0, two));
            due(x.word(what, 0, 1), 1);
            due(x.word(what, 0, 2), 2);
            due(x.word(what, 0, 999), 3);
            due(x.word(what, 0, 1000), 4);
            x.clear();
        }
    }

    @Sentence(under = "Promise 14", says = "it does not matter for others")
    static void twoDoesNotMatterForOthers() {
        Ticksilo x = of(0, 7);
        int[] any = {Integer.MIN_VALUE, -1, 0, 1001, Integer.MAX_VALUE};
        for (int two : any) {
            due(told(x, 0, NUMBER, 5, two), "666=5");
            due(told(x, 0, AT, 0, 0, NUMBER, 1000, two, TIMES, 0, two), "000=7000");
            due(told(x, 0, AT, 0, 0, SUM, 7, two, MOST, 7, two), "000=7000");
            due(told(x, 0, NUMBER, 1, two, NUMBER, 1, two, PLUS, 0, two), "666=2");
            due(told(x, 0, NUMBER, 1, two, NUMBER, 1, two, MINUS, 0, two), "666=0");
            due(told(x, 0, NUMBER, 1, two, NUMBER, 1, two, PER, 0, two), "666=1000");
            due(told(x, 0, NUMBER, 1, two, NUMBER, 1, two, ABOVE, 0, two), "666=0");
            due(told(x, 0, AT, 0, 0, QUANTILE, 1000, two), "006=1000");
        }
    }

    @Sentence(under = "Promise 14", says = "Returns how many words it has then.")
    static void theDraftHas1To10Words() {
        Ticksilo x = new Ticksilo();
        for (int i = 1; i <= 10; i++) due(x.word(NUMBER, 0, 0), i);
        state(() -> x.word(NUMBER, 0, 0));
        due(x.clear(), 10);
        due(x.word(NUMBER, 0, 0), 1);
    }

    @Sentence(under = "Promise 14", says = "Throws IllegalArgumentException if what, one or two is out of range")
    static void wordsOutOfRangeAreRefused() {
        Ticksilo x = new Ticksilo();
        argument(() -> x.word(16, 0, 1));
        argument(() -> x.word(-1, 0, 1));
        argument(() -> x.word(NUMBER, 1000001, 0));
        argument(() -> x.word(AT, 4, 0));
        argument(() -> x.word(AT, 0, 1001));
        argument(() -> x.word(COUNT, 0, 0));
        due(x.clear(), 0);
    }

    @Sentence(under = "Promise 14", says = "Throws IllegalStateException if it has 10, or there is not enough on the pile")
    static void anEleventhWordIsRefused() {
        Ticksilo x = new Ticksilo();
        for (int i = 0; i < 9; i++) x.word(NUMBER, i, 0);
        due(x.word(PLUS, 0, 0), 10);
        for (int what = NUMBER; what <= QUANTILE; what++) {
            int w = what;
            state(() -> x.word(w, 0, 1));
        }
        due(x.clear(), 10);
    }

    @Sentence(under = "Promise 14", says = "or there is not enough on the pile")
    static void wordsNeedEnoughOnThePile() {
        Ticksilo x = new Ticksilo();
        int[] ones = {SUM, MOST, QUANTILE};
        int[] twos = {PLUS, MINUS, TIMES, PER, ABOVE};
        for (int w : ones) state(() -> x.word(w, 0, 0));
        for (int w : twos) state(() -> x.word(w, 0, 0));
        due(x.word(AT, 0, 0), 1);
        for (int w : twos) state(() -> x.word(w, 0, 0));
        int words = 1;
        for (int w : ones) due(x.word(w, 0, 0), ++words);
        for (int w : twos) state(() -> x.word(w, 0, 0));
        due(x.word(NUMBER, 0, 0), 5);
        due(x.word(PLUS, 0, 0), 6);
        for (int w : twos) state(() -> x.word(w, 0, 0));
        for (int w : twos) {
            draft(x, AT, 0, 0, AT, 0, 0);
            due(x.word(w, 0, 0), 3);
            state(() -> x.word(w, 0, 0));
        }
    }

    @Sentence(under = "Promise 15", says = "Empties the draft; returns how many words it had.")
    static void clearFrom0To10Words() {
        Ticksilo x = new Ticksilo();
        due(x.clear(), 0);
        for (int many = 0; many <= 10; many++) {
            for (int i = 0; i < many; i++) x.word(NUMBER, 1, 0);
            due(x.clear(), many);
            due(x.clear(), 0);
            state(() -> x.ask(0));
            state(() -> x.word(SUM, 0, 0));
        }
    }

    @Sentence(under = "Promise 16", says = "Asks the draft, which stays, for a time;")
    static void theDraftStays() {
        Ticksilo x = with(10, 3, 4, 10, 6);
        draft(x, AT, 0, 0);
        due(x.ask(10), 1);
        due(x.value(0), 6000);
        due(x.ask(9), 1);
        due(x.value(0), 4000);
        due(x.ask(2), 0);
        due(x.word(SUM, 0, 0), 2);
        due(x.ask(10), 1);
        due(x.labelsOf(0), 666);
        due(x.clear(), 2);
    }

    @Sentence(under = "Promise 16", says = "what is told of it stays until the next one.")
    static void whatIsToldStaysUntilTheNextOne() {
        Ticksilo x = of(0, 1, 10, 2);
        draft(x, AT, 0, 0);
        x.record(5);
        due(told(x, 0, AT, 0, 0), "000=1000 010=2000");
        x.clear();
        x.erase(0, 0, 0);
        x.flush();
        x.word(NUMBER, 1, 0);
        x.word(NUMBER, 1, 0);
        state(() -> x.ask(0));
        argument(() -> x.ask(-1));
        x.write(0, 0, 0, 0, 9);
        // Rules are gone through with a pile of their own.
        x.pass(10);
        due(x.samples(2), 1);
        due(answers(x, 2), "000=1000 010=2000");
        index(() -> x.value(2));
        due(told(x, 0, AT, 0, 0, NUMBER, 0, 0, PER, 0, 0), "");
        index(() -> x.value(0));
        index(() -> x.labelsOf(0));
    }

    @Sentence(under = "Promise 16", says = "time: 0 to 100000")
    static void itAsksForTimesFrom0To100000() {
        Ticksilo x = with(60, 0, 1, 60, 2);
        draft(x, AT, 0, 0);
        argumentsOutside(0, LAST, x::ask);
        due(x.ask(0), 1);
        due(x.value(0), 1000);
        due(x.ask(110), 1);
        due(x.value(0), 2000);
        due(x.ask(99999), 0);
        due(x.ask(LAST), 0);
        due(told(x, LAST, NUMBER, 1, 0), "666=1");
    }

    @Sentence(under = "Promise 16", says = "Returns how many values there are, NONE if it fails; a number is one, without labels.")
    static void itReturnsHowManyValues() {
        Ticksilo x = new Ticksilo();
        draft(x, AT, 0, 0);
        due(x.ask(0), 0);
        index(() -> x.value(0));
        for (int i = 0; i < 12; i++) {
            x.write(i % 6, i / 6, 6, 0, 0);
            due(x.ask(0), i + 1);
        }
        draft(x, NUMBER, 0, 0);
        due(x.ask(0), 1);
        due(x.labelsOf(0), 666);
        draft(x, NUMBER, 1, 0, NUMBER, 0, 0, PER, 0, 0);
        due(x.ask(0), -1);
        index(() -> x.value(0));
        // What comes behind a failing word doesn't mend it.
        draft(x, NUMBER, 1, 0, NUMBER, 0, 0, PER, 0, 0, AT, 0, 0, ABOVE, 0, 0, SUM, 0, 0);
        due(x.ask(0), NONE);
    }

    @Sentence(under = "Promise 16", says = "Throws IllegalArgumentException if time is out of range")
    static void askRefusesTimesOutOfRange() {
        Ticksilo x = new Ticksilo();
        draft(x, NUMBER, 0, 0);
        argument(() -> x.ask(-1));
        argument(() -> x.ask(LAST + 1));
        due(x.ask(LAST), 1);
    }

    @Sentence(under = "Promise 16", says = "Throws IllegalStateException if it does not leave just one result")
    static void askRefusesNoneAndTwoResults() {
        Ticksilo x = new Ticksilo();
        state(() -> x.ask(0));
        x.word(AT, 0, 0);
        due(x.ask(0), 0);
        x.word(AT, 0, 0);
        state(() -> x.ask(0));
        x.word(AT, 0, 0);
        state(() -> x.ask(0));
        x.word(PLUS, 0, 0);
        state(() -> x.ask(0));
        x.word(PLUS, 0, 0);
        due(x.ask(0), 0);
    }

    @Sentence(under = "Promise 17", says = "Returns a value of what was asked last. entry: 0 for the first one")
    static void valuesFromTheFirstToTheLast() {
        Ticksilo x = new Ticksilo();
        for (int i = 0; i < 12; i++) x.write(i / 6, i % 6, 6, 0, i);
        draft(x, AT, 0, 0);
        due(x.ask(0), 12);
        due(x.value(0), 0);
        due(x.value(11), 11000);
        indexesOutside(0, 11, x::value);
        draft(x, NUMBER, 5, 0);
        x.ask(0);
        due(x.value(0), 5);
        indexesOutside(0, 0, x::value);
    }

    @Sentence(under = "Promise 17", says = "Returns thousandths.")
    static void valuesAreThousandths() {
        Ticksilo x = of(0, -1);
        due(told(x, 0, AT, 0, 0), "000=-1000");
        due(told(x, 0, NUMBER, -1, 0), "666=-1");
    }

    @Sentence(under = "Promise 17", says = "Throws IndexOutOfBoundsException if there is no such entry")
    static void noValueWithoutAnEntry() {
        Ticksilo x = new Ticksilo();
        indexesOutside(0, -1, x::value);
        draft(x, AT, 0, 0);
        x.ask(0);
        indexesOutside(0, -1, x::value);
        draft(x, NUMBER, 1, 0, NUMBER, 0, 0, PER, 0, 0);
        due(x.ask(0), NONE);
        indexesOutside(0, -1, x::value);
    }

    @Sentence(under = "Promise 18", says = "Returns the labels of a value of what was asked last. entry: 0 for the first one")
    static void labelsFromTheFirstToTheLast() {
        Ticksilo x = new Ticksilo();
        for (int i = 0; i < 12; i++) x.write(i / 6, i % 6, 6, 0, i);
        draft(x, AT, 0, 0);
        due(x.ask(0), 12);
        due(x.labelsOf(0), 6);
        due(x.labelsOf(11), 156);
        indexesOutside(0, 11, x::labelsOf);
        draft(x, NUMBER, 5, 0);
        x.ask(0);
        due(x.labelsOf(0), 666);
        indexesOutside(0, 0, x::labelsOf);
    }

    @Sentence(under = "Promise 18", says = "Returns as labels() tells.")
    static void labelsAreAsLabelsTells() {
        Ticksilo x = of(0, 1, 666, 2);
        draft(x, AT, 0, 0);
        x.ask(0);
        due(x.labelsOf(0), x.labels(0));
        due(x.labelsOf(1), x.labels(1));
        due(told(x, 0, AT, 0, 0, SUM, 2, 0), "606=1000 666=2000");
    }

    @Sentence(under = "Promise 18", says = "Throws IndexOutOfBoundsException if there is no such entry")
    static void noLabelsWithoutAnEntry() {
        Ticksilo x = new Ticksilo();
        indexesOutside(0, -1, x::labelsOf);
        draft(x, AT, 0, 0);
        x.ask(0);
        indexesOutside(0, -1, x::labelsOf);
        draft(x, NUMBER, 1, 0, NUMBER, 0, 0, PER, 0, 0);
        due(x.ask(0), NONE);
        indexesOutside(0, -1, x::labelsOf);
    }
}
