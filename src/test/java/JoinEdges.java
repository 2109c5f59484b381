/** Boundary cases of values and of the words NUMBER and SUM to QUANTILE, under ASKING. */
final class JoinEdges extends Due {
    private static final int MILLION = 1000000;
    /** The bound itself, as a number: seven words. */
    private static final int[] GREATEST_NUMBER = {
        NUMBER, MILLION, 0, NUMBER, MILLION, 0, TIMES, 0, 0, NUMBER, MILLION, 0, TIMES, 0, 0, NUMBER, 100000, 0, TIMES, 0, 0};
    private static final int[] LEAST_NUMBER = {
        NUMBER, -MILLION, 0, NUMBER, MILLION, 0, TIMES, 0, 0, NUMBER, MILLION, 0, TIMES, 0, 0, NUMBER, 100000, 0, TIMES, 0, 0};
    /** The values of a selector made a hundred thousand times greater: five words. A million comes to the bound. */
    private static final int[] GREAT = {AT, 0, 0, NUMBER, MILLION, 0, TIMES, 0, 0, NUMBER, 100000, 0, TIMES, 0, 0};

    private static String number(int... words) {
        String text = told(new Ticksilo(), 0, words);
        return text.startsWith("666=") ? text.substring(4) : text;
    }

    /** What a word makes of two numbers. */
    private static String by(int lower, int what, int upper) {
        return number(NUMBER, lower, 0, NUMBER, upper, 0, what, 0, 0);
    }

    // ---- values

    @Sentence(under = "ASKING", says = "Values are whole numbers of thousandths, from -100000000000000 to 100000000000000;")
    static void valuesReachTheirBounds() {
        due(number(GREATEST_NUMBER), "" + BOUND);
        due(number(LEAST_NUMBER), "" + -BOUND);
        due(number(join(GREATEST_NUMBER, new int[] {NUMBER, 1, 0, MINUS, 0, 0})), "" + (BOUND - 1));
        due(number(join(LEAST_NUMBER, new int[] {NUMBER, 1, 0, PLUS, 0, 0})), "" + (1 - BOUND));
        due(told(of(0, 1000000, 1, -1000000), 0, GREAT), "000=" + BOUND + " 001=-" + BOUND);
    }

    @Sentence(under = "ASKING", says = "a value that would be outside is that bound,")
    static void valuesOutsideAreTheBound() {
        due(number(join(GREATEST_NUMBER, new int[] {NUMBER, 1, 0, PLUS, 0, 0})), "" + BOUND);
        due(number(join(LEAST_NUMBER, new int[] {NUMBER, 1, 0, MINUS, 0, 0})), "" + -BOUND);
        due(number(join(GREATEST_NUMBER, new int[] {NUMBER, MILLION, 0, PLUS, 0, 0})), "" + BOUND);
        due(number(join(GREATEST_NUMBER, new int[] {NUMBER, 1001, 0, TIMES, 0, 0})), "" + BOUND);
        due(number(join(GREATEST_NUMBER, new int[] {NUMBER, 1000, 0, TIMES, 0, 0})), "" + BOUND);
        due(number(join(GREATEST_NUMBER, new int[] {NUMBER, 999, 0, TIMES, 0, 0})), "99900000000000");
        due(number(join(GREATEST_NUMBER, new int[] {NUMBER, -1001, 0, TIMES, 0, 0})), "" + -BOUND);
        due(number(join(GREATEST_NUMBER, new int[] {NUMBER, 999, 0, PER, 0, 0})), "" + BOUND);
        due(number(join(GREATEST_NUMBER, new int[] {NUMBER, 1001, 0, PER, 0, 0})), "99900099900099");
        due(number(join(LEAST_NUMBER, new int[] {NUMBER, 1, 0, PER, 0, 0})), "" + -BOUND);
        due(number(join(LEAST_NUMBER, new int[] {NUMBER, -1, 0, PER, 0, 0})), "" + BOUND);
    }

    @Sentence(under = "ASKING", says = "a value that would be outside is that bound,")
    static void valuesStayAtTheBound() {
        // What goes beyond the bound is lost to the next word.
        Ticksilo x = of(0, 1000000, 1, -1000000);
        due(told(x, 0, join(GREAT, new int[] {NUMBER, 5, 0, PLUS, 0, 0, NUMBER, 7, 0, MINUS, 0, 0})),
            "000=" + (BOUND - 7) + " 001=" + -BOUND);
        due(told(x, 0, join(GREAT, new int[] {NUMBER, 5, 0, MINUS, 0, 0, NUMBER, 7, 0, PLUS, 0, 0})),
            "000=" + BOUND + " 001=" + (7 - BOUND));
        // Just below the bound, just at it, just above it, by 1000000 times 1000000 times 99999, 100000, 100001.
        for (int last = 99999; last <= 100001; last++) {
            due(told(x, 0, AT, 0, 0, NUMBER, MILLION, 0, TIMES, 0, 0, NUMBER, last, 0, TIMES, 0, 0),
                last == 99999 ? "000=99999000000000 001=-99999000000000" : "000=" + BOUND + " 001=-" + BOUND);
        }
    }

    @Sentence(under = "ASKING", says = "products and sums as if they were reckoned without bounds first.")
    static void productsAreReckonedWithoutBoundsFirst() {
        // The bound by 2 thousandths is above the bound until it is divided.
        due(number(join(GREATEST_NUMBER, new int[] {NUMBER, 2, 0, TIMES, 0, 0})), "200000000000");
        due(number(join(GREATEST_NUMBER, new int[] {NUMBER, 999, 0, TIMES, 0, 0})), "99900000000000");
        due(number(join(LEAST_NUMBER, new int[] {NUMBER, 1, 0, TIMES, 0, 0})), "-100000000000");
        // The bound by the bound, of each sign: far beyond a long.
        Ticksilo x = of(0, 1000000, 1, -1000000);
        due(told(x, 0, AT, 0, 0, AT, 0, 0, TIMES, 7, 0), "000=" + BOUND + " 001=" + BOUND);
        due(told(x, 0, join(GREAT, new int[] {AT, 0, 0, AT, 0, 0, TIMES, 7, 0, TIMES, 7, 0})),
            "000=" + BOUND + " 001=-" + BOUND);
        due(told(x, 0, AT, 0, 0, AT, 0, 0, TIMES, 7, 0, AT, 0, 0, AT, 0, 0, TIMES, 7, 0, TIMES, 7, 0),
            "000=" + BOUND + " 001=" + BOUND);
        due(told(x, 0, AT, 0, 0, AT, 0, 0, TIMES, 7, 0, AT, 0, 0, AT, 0, 0, TIMES, 7, 0, PER, 7, 0),
            "000=1000 001=1000");
    }

    @Sentence(under = "ASKING", says = "products and sums as if they were reckoned without bounds first.")
    static void productsFarBeyondTheBoundAreTheBound() {
        int[] square = {AT, 0, 0, AT, 0, 0, TIMES, 7, 0};
        int[] times = {TIMES, 7, 0};
        // A value to the power of 4: 563 is the first that goes beyond the bound, 9801 goes beyond a long.
        int[] values = {1, 2, 10, 562, 563, 9800, 9801, 12345, 31623, 65536, 65537, 123456, 262144, 316227, 316228, 999999, 1000000};
        long[] fourths = {1000, 16000, 10000000, 99757432336000L};
        for (int i = 0; i < values.length; i++) {
            String due = "" + (i < fourths.length ? fourths[i] : BOUND);
            due(told(of(0, values[i], 1, -values[i]), 0, join(square, square, times)), "000=" + due + " 001=" + due);
        }
        // A value to the power of 3, a hundred thousand times: 100 comes to the bound, 4518 is beyond a long.
        int[] lengths = {1, 99, 100, 101, 4517, 4518, 9999, 31623, 65536, 123456, 500000, 999999, 1000000};
        long[] cubes = {100000000L, 97029900000000L};
        for (int i = 0; i < lengths.length; i++) {
            long due = i < cubes.length ? cubes[i] : BOUND;
            due(told(of(0, lengths[i], 1, -lengths[i]), 0, join(GREAT, square, times)), "000=" + due + " 001=" + -due);
            due(told(of(0, lengths[i], 1, -lengths[i]), 0, join(square, GREAT, times)), "000=" + due + " 001=" + -due);
        }
    }

    @Sentence(under = "ASKING", says = "products and sums as if they were reckoned without bounds first.")
    static void sumsAreReckonedWithoutBoundsFirst() {
        Ticksilo x = of(0, 1000000, 1, 1000000, 2, -1000000, 103, 1000000, 104, 1000000, 200, -1000000, 201, -1000000);
        due(told(x, 0, join(GREAT, new int[] {SUM, 1, 0})), "066=" + BOUND + " 166=" + BOUND + " 266=-" + BOUND);
        // In their order 1 + 1 - 1 + 1 + 1 - 1 - 1 of the bound.
        due(told(x, 0, join(GREAT, new int[] {SUM, 0, 0})), "666=" + BOUND);
        put(x, 202, 0, -1000000);
        due(told(x, 0, join(GREAT, new int[] {SUM, 0, 0})), "666=0");
        put(x, 203, 0, -999999);
        due(told(x, 0, join(GREAT, new int[] {SUM, 0, 0})), "666=-99999900000000");
        // Twelve times the bound.
        Ticksilo y = new Ticksilo();
        for (int i = 0; i < 12; i++) y.write(i % 6, i / 6, 0, 0, 1000000);
        due(told(y, 0, join(GREAT, new int[] {SUM, 0, 0})), "666=" + BOUND);
        due(told(y, 0, join(GREAT, new int[] {MOST, 0, 0})), "666=" + BOUND);
    }

    @Sentence(under = "ASKING", says = "NUMBER.")
    static void aNumberIsItself() {
        due(number(NUMBER, 0, 0), "0");
        due(number(NUMBER, -MILLION, 0), "-1000000");
        due(number(NUMBER, MILLION, 0), "1000000");
    }

    // ---- SUM, MOST

    @Sentence(under = "ASKING", says = "SUM and MOST with a set of labels (the sum of 2 to the power of each): values of those that have the same values in these labels are added, or the greatest one taken;")
    static void sumAndMostByEachSetOfLabels() {
        Ticksilo x = of(0, 1, 1, 2, 10, 4, 100, 8, 111, 16);
        String[] sums = {
            "666=31000", "066=7000 166=24000", "606=11000 616=20000", "006=3000 016=4000 106=8000 116=16000",
            "660=13000 661=18000", "060=5000 061=2000 160=8000 161=16000", "600=9000 601=2000 610=4000 611=16000",
            "000=1000 001=2000 010=4000 100=8000 111=16000"};
        String[] most = {
            "666=16000", "066=4000 166=16000", "606=8000 616=16000", "006=2000 016=4000 106=8000 116=16000",
            "660=8000 661=16000", "060=4000 061=2000 160=8000 161=16000", "600=8000 601=2000 610=4000 611=16000",
            "000=1000 001=2000 010=4000 100=8000 111=16000"};
        for (int set = 0; set <= 7; set++) {
            due(told(x, 0, AT, 0, 0, SUM, set, 0), sums[set]);
            due(told(x, 0, AT, 0, 0, MOST, set, 0), most[set]);
        }
    }

    @Sentence(under = "ASKING", says = "values of those that have the same values in these labels are added, or the greatest one taken;")
    static void sumAndMostOfNoneOneAndNegativeOnes() {
        Ticksilo x = new Ticksilo();
        for (int set = 0; set <= 7; set++) {
            due(told(x, 0, AT, 0, 0, SUM, set, 0), "");
            due(told(x, 0, AT, 0, 0, MOST, set, 0), "");
        }
        put(x, 345, 0, -2);
        due(told(x, 0, AT, 0, 0, SUM, 0, 0), "666=-2000");
        due(told(x, 0, AT, 0, 0, MOST, 0, 0), "666=-2000");
        put(x, 344, 0, -1);
        due(told(x, 0, AT, 0, 0, MOST, 0, 0), "666=-1000");
        due(told(x, 0, AT, 0, 0, SUM, 0, 0), "666=-3000");
        // Being without is the same among those that are without.
        put(x, 666, 0, 5);
        put(x, 665, 0, 6);
        due(told(x, 0, AT, 0, 0, SUM, 1, 0), "366=-3000 666=11000");
        due(told(x, 0, AT, 0, 0, MOST, 6, 0), "644=-1000 645=-2000 665=6000 666=5000");
    }

    @Sentence(under = "ASKING", says = "the others are without then.")
    static void theOtherLabelsAreWithout() {
        due(told(of(123, 7), 0, AT, 0, 0, SUM, 0, 0), "666=7000");
        due(told(of(123, 7), 0, AT, 0, 0, SUM, 1, 0), "166=7000");
        due(told(of(123, 7), 0, AT, 0, 0, MOST, 2, 0), "626=7000");
        due(told(of(123, 7), 0, AT, 0, 0, MOST, 4, 0), "663=7000");
        due(told(of(123, 7), 0, AT, 0, 0, SUM, 7, 0), "123=7000");
    }

    @Sentence(under = "ASKING", says = "A number stays as it is.")
    static void sumAndMostLeaveANumber() {
        Ticksilo x = of(0, 2, 1, 3);
        for (int set = 0; set <= 7; set++) {
            due(number(NUMBER, -5, 0, SUM, set, 0), "-5");
            due(number(NUMBER, -5, 0, MOST, set, 0), "-5");
        }
        // It stays a number, that joins with each value.
        due(told(x, 0, AT, 0, 0, NUMBER, 1000, 0, SUM, 7, 0, PLUS, 7, 0), "000=3000 001=4000");
        due(told(x, 0, NUMBER, 1000, 0, MOST, 0, 0, AT, 0, 0, MINUS, 7, 0), "000=-1000 001=-2000");
        // A vector of one value without labels is no number.
        due(told(x, 0, AT, 0, 0, SUM, 0, 0, AT, 0, 0, MINUS, 7, 0), "");
    }

    // ---- PLUS to ABOVE

    @Sentence(under = "ASKING", says = "PLUS, MINUS, TIMES, PER, ABOVE with a set of labels, of the lower by the upper result.")
    static void theLowerByTheUpper() {
        due(by(7000, PLUS, 2000), "9000");
        due(by(7000, MINUS, 2000), "5000");
        due(by(7000, TIMES, 2000), "14000");
        due(by(7000, PER, 2000), "3500");
        due(by(7000, ABOVE, 2000), "1000");
        due(by(2000, MINUS, 7000), "-5000");
        due(by(2000, PER, 7000), "285");
        due(by(2000, ABOVE, 7000), "0");
    }

    @Sentence(under = "ASKING", says = "Two numbers make a number; a number and a vector a vector, value by value;")
    static void numbersAndVectors() {
        Ticksilo x = of(0, 2, 111, -3);
        int n = NUMBER;
        due(told(x, 0, AT, 0, 0, n, 500, 0, PLUS, 0, 0), "000=2500 111=-2500");
        due(told(x, 0, n, 500, 0, AT, 0, 0, PLUS, 0, 0), "000=2500 111=-2500");
        due(told(x, 0, AT, 0, 0, n, 500, 0, MINUS, 0, 0), "000=1500 111=-3500");
        due(told(x, 0, n, 500, 0, AT, 0, 0, MINUS, 0, 0), "000=-1500 111=3500");
        due(told(x, 0, AT, 0, 0, n, 500, 0, TIMES, 7, 0), "000=1000 111=-1500");
        due(told(x, 0, n, 500, 0, AT, 0, 0, TIMES, 7, 0), "000=1000 111=-1500");
        due(told(x, 0, AT, 0, 0, n, 500, 0, PER, 7, 0), "000=4000 111=-6000");
        due(told(x, 0, n, 500, 0, AT, 0, 0, PER, 7, 0), "000=250 111=-166");
        Ticksilo none = new Ticksilo();
        for (int what = PLUS; what <= ABOVE; what++) {
            due(told(none, 0, AT, 0, 0, n, 1, 0, what, 0, 0), "");
            due(told(none, 0, n, 1, 0, AT, 0, 0, what, 0, 0), "");
            due(told(none, 0, AT, 0, 0, AT, 0, 0, what, 0, 0), "");
        }
        // Two numbers make a number, that joins each value; not a vector without labels.
        due(told(x, 0, AT, 0, 0, n, 1, 0, n, 1, 0, PLUS, 0, 0, MINUS, 7, 0), "000=1998 111=-3002");
    }

    @Sentence(under = "ASKING", says = "of two vectors each value of the lower one is joined with that of the upper one that has the same values in these labels, and is left out if there is none;")
    static void vectorsAreJoinedByEachSetOfLabels() {
        Ticksilo x = of(0, 1, 122, 10);
        x.select(1, 1, ALL, ALL);
        x.select(2, 2, ALL, ALL);
        // 000 and 122 are the same in no labels.
        for (int set = 1; set <= 7; set++) due(told(x, 0, AT, 1, 0, AT, 2, 0, PLUS, set, 0), "");
        due(told(x, 0, AT, 1, 0, AT, 2, 0, PLUS, 0, 0), "000=11000");
        due(told(x, 0, AT, 2, 0, AT, 1, 0, MINUS, 0, 0), "122=9000");
        put(x, 102, 0, 100);
        // 000 and 102 are the same in label 1, 122 and 102 in 0 and 2.
        x.select(2, 2, 1, ALL);
        x.select(3, 2, 4, ALL);
        String[] firsts = {"000=101000", "", "000=101000", "", "", "", "", ""};
        String[] thirds = {"122=110000", "122=110000", "", "", "122=110000", "122=110000", "", ""};
        for (int set = 0; set <= 7; set++) {
            due(told(x, 0, AT, 1, 0, AT, 2, 0, PLUS, set, 0), firsts[set]);
            due(told(x, 0, AT, 3, 0, AT, 2, 0, PLUS, set, 0), thirds[set]);
        }
        due(told(x, 0, AT, 0, 0, AT, 0, 0, PLUS, 7, 0), "000=2000 102=200000 122=20000");
    }

    @Sentence(under = "ASKING", says = "and is left out if there is none;")
    static void withoutAPartnerAValueIsLeftOut() {
        Ticksilo x = of(0, 1, 1, 2, 2, 3, 6, 4);
        x.select(1, ALL, ALL, 2 + 64);
        x.select(2, 0, 0, 0);
        due(told(x, 0, AT, 0, 0, AT, 1, 0, PLUS, 4, 0), "001=4000 006=8000");
        due(told(x, 0, AT, 0, 0, AT, 2, 0, PLUS, 4, 0), "");
        due(told(x, 0, AT, 2, 0, AT, 0, 0, PLUS, 4, 0), "");
        for (int what = PLUS; what <= ABOVE; what++) due(told(x, 0, AT, 0, 0, AT, 2, 0, what, 7, 0), "");
    }

    @Sentence(under = "ASKING", says = "if the upper one has several such for one of them, the expression fails.")
    static void severalPartnersFail() {
        Ticksilo x = of(0, 1, 100, 2, 101, 3, 110, 4);
        x.select(1, 1, ALL, ALL);
        x.select(2, 2, ALL, ALL);
        x.select(3, 2, 1, ALL);
        int[] words = {PLUS, MINUS, TIMES, PER, ABOVE};
        for (int what : words) {
            due(told(x, 0, AT, 1, 0, AT, 2, 0, what, 0, 0), "fails");
            due(told(x, 0, AT, 1, 0, AT, 2, 0, what, 2, 0), "fails");
            due(told(x, 0, AT, 3, 0, AT, 2, 0, what, 1, 0), "fails");
        }
        // Several of the lower one may have the same of the upper one.
        due(told(x, 0, AT, 2, 0, AT, 1, 0, PLUS, 0, 0), "100=3000 101=4000 110=5000");
        // Several that no value of the lower one asks for don't matter.
        due(told(x, 0, AT, 1, 0, AT, 2, 0, PLUS, 1, 0), "");
        due(told(x, 0, AT, 1, 0, AT, 0, 0, PLUS, 1, 0), "000=2000");
        // One of the lower ones is enough, the last one too.
        due(told(x, 0, AT, 0, 0, AT, 0, 0, PLUS, 1, 0), "fails");
        // By these labels each has one; and a lower one without values asks for none.
        due(told(x, 0, AT, 2, 0, AT, 2, 0, PLUS, 6, 0), "100=4000 101=6000 110=8000");
        x.select(1, 0, 0, 0);
        due(told(x, 0, AT, 1, 0, AT, 2, 0, PLUS, 0, 0), "");
    }

    @Sentence(under = "ASKING", says = "The labels of the lower one stay, unless that is a number.")
    static void theLabelsOfTheLowerOneStay() {
        Ticksilo x = of(123, 5, 456, 2);
        x.select(1, 2, ALL, ALL);
        x.select(2, 16, ALL, ALL);
        for (int what = PLUS; what <= PER; what++) {
            draft(x, AT, 1, 0, AT, 2, 0, what, 0, 0);
            due(x.ask(0), 1);
            due(x.labelsOf(0), 123);
            draft(x, AT, 2, 0, NUMBER, 1000, 0, what, 7, 0);
            due(x.ask(0), 1);
            due(x.labelsOf(0), 456);
            draft(x, NUMBER, 1000, 0, AT, 2, 0, what, 0, 0);
            due(x.ask(0), 1);
            due(x.labelsOf(0), 456);
        }
        due(told(x, 0, AT, 1, 0, AT, 2, 0, ABOVE, 0, 0), "123=5000");
        due(told(x, 0, NUMBER, 9000, 0, AT, 1, 0, ABOVE, 0, 0), "123=5000");
    }

    @Sentence(under = "ASKING", says = "TIMES is divided by 1000, PER multiplied by 1000 and divided, both rounded toward 0;")
    static void timesAndPerAreRoundedToward0() {
        due(by(1, TIMES, 999), "0");
        due(by(1, TIMES, 1000), "1");
        due(by(1, TIMES, 1999), "1");
        due(by(1, TIMES, 2000), "2");
        due(by(-1, TIMES, 999), "0");
        due(by(-1, TIMES, 1000), "-1");
        due(by(1, TIMES, -1999), "-1");
        due(by(-1, TIMES, -1999), "1");
        due(by(1999, TIMES, 1999), "3996");
        due(by(0, TIMES, -1000000), "0");
        due(by(1000, TIMES, -1), "-1");
        due(by(-1, TIMES, 1000), "-1");
        due(by(-1000, TIMES, -1), "1");
        due(by(-1, TIMES, -1), "0");
        due(by(1, PER, 1), "1000");
        due(by(1, PER, 1000), "1");
        due(by(1, PER, 1001), "0");
        due(by(-1, PER, 1001), "0");
        due(by(2, PER, 3), "666");
        due(by(-2, PER, 3), "-666");
        due(by(2, PER, -3), "-666");
        due(by(-2, PER, -3), "666");
        due(by(0, PER, 5), "0");
        due(by(1000000, PER, 1), "1000000000");
        due(by(-1000000, PER, -1000000), "1000");
    }

    @Sentence(under = "ASKING", says = "by 0 a value is left out, or, of two numbers, the expression fails.")
    static void perBy0() {
        due(by(1, PER, 0), "fails");
        due(by(0, PER, 0), "fails");
        due(by(-1, PER, 0), "fails");
        due(by(5, TIMES, 0), "0");
        Ticksilo x = of(0, 4, 1, 0, 2, -2);
        due(told(x, 0, AT, 0, 0, NUMBER, 0, 0, PER, 0, 0), "");
        due(told(x, 0, NUMBER, 8000, 0, AT, 0, 0, PER, 0, 0), "000=2000 002=-4000");
        due(told(x, 0, NUMBER, 0, 0, AT, 0, 0, PER, 0, 0), "000=0 002=0");
        due(told(x, 0, AT, 0, 0, AT, 0, 0, PER, 7, 0), "000=1000 002=1000");
        // A thousandth of either sign is not 0.
        due(told(x, 0, AT, 0, 0, NUMBER, 1, 0, PER, 0, 0), "000=4000000 001=0 002=-2000000");
        due(told(x, 0, AT, 0, 0, NUMBER, -1, 0, PER, 0, 0), "000=-4000000 001=0 002=2000000");
    }

    @Sentence(under = "ASKING", says = "ABOVE keeps those of the lower one that are greater;")
    static void aboveKeepsTheGreaterOfTheLowerOne() {
        Ticksilo x = of(0, 4, 1, 5, 2, 6);
        due(told(x, 0, AT, 0, 0, NUMBER, 5000, 0, ABOVE, 0, 0), "002=6000");
        due(told(x, 0, AT, 0, 0, NUMBER, 4999, 0, ABOVE, 0, 0), "001=5000 002=6000");
        due(told(x, 0, AT, 0, 0, NUMBER, 5001, 0, ABOVE, 0, 0), "002=6000");
        due(told(x, 0, AT, 0, 0, NUMBER, 6000, 0, ABOVE, 0, 0), "");
        due(told(x, 0, AT, 0, 0, AT, 0, 0, ABOVE, 7, 0), "");
        x.select(1, ALL, ALL, 2);
        due(told(x, 0, AT, 0, 0, AT, 1, 0, ABOVE, 3, 0), "002=6000");
        due(told(x, 0, AT, 1, 0, AT, 0, 0, NUMBER, 1, 0, MINUS, 0, 0, ABOVE, 7, 0), "001=5000");
    }

    @Sentence(under = "ASKING", says = "of two numbers it is 1000 or 0 thousandths;")
    static void aboveOfTwoNumbers() {
        due(by(1, ABOVE, 0), "1000");
        due(by(0, ABOVE, 0), "0");
        due(by(-1, ABOVE, 0), "0");
        due(by(0, ABOVE, -1), "1000");
        due(by(1000000, ABOVE, 999999), "1000");
        due(by(1000000, ABOVE, 1000000), "0");
    }

    @Sentence(under = "ASKING", says = "of a number and a vector those of the vector that are less.")
    static void aboveOfANumberAndAVector() {
        Ticksilo x = of(0, 4, 1, 5, 2, 6);
        due(told(x, 0, NUMBER, 5000, 0, AT, 0, 0, ABOVE, 0, 0), "000=4000");
        due(told(x, 0, NUMBER, 5001, 0, AT, 0, 0, ABOVE, 0, 0), "000=4000 001=5000");
        due(told(x, 0, NUMBER, 4999, 0, AT, 0, 0, ABOVE, 0, 0), "000=4000");
        due(told(x, 0, NUMBER, 4000, 0, AT, 0, 0, ABOVE, 0, 0), "");
        due(told(x, 0, NUMBER, 6001, 0, AT, 0, 0, ABOVE, 7, 0), "000=4000 001=5000 002=6000");
    }

    // ---- QUANTILE

    /** The quantile of values for the labels 2 from 0 on, in thousandths; NONE stands for a missing one. */
    private static String quantile(int q, int... values) {
        Ticksilo x = new Ticksilo();
        for (int i = 0; i < values.length; i++) {
            if (values[i] != NONE) x.write(0, 0, i, 0, values[i]);
        }
        return told(x, 0, AT, 0, 0, NUMBER, 1, 0, TIMES, 0, 0, QUANTILE, q, 0);
    }

    @Sentence(under = "ASKING", says = "QUANTILE with thousandths q, 0 to 1000, of a vector:")
    static void quantilesFrom0To1000() {
        due(quantile(0, 1000, 2000), "006=0");
        due(quantile(1, 1000, 2000), "006=2");
        due(quantile(999, 1000, 2000), "006=1998");
        due(quantile(1000, 1000, 2000), "006=2000");
    }

    @Sentence(under = "ASKING", says = "for each values of the labels 0 and 1, of those with a label 2 from 0 to 5 (of a number there are none):")
    static void quantilesForEachLabels0And1() {
        Ticksilo x = of(2, 1, 13, 1, 104, 1, 662, 1, 600, 1, 61, 1, 6, 9, 666, 9, 16, 9, 56, 9);
        due(told(x, 0, AT, 0, 0, QUANTILE, 1000, 0),
            "006=5000 016=10000 066=2000 106=20000 606=1000 666=5000");
        // Those without a label 2 count for none.
        x.select(1, ALL, ALL, 64);
        due(told(x, 0, AT, 1, 0, QUANTILE, 1000, 0), "");
        due(told(x, 0, AT, 0, 0, SUM, 3, 0, QUANTILE, 1000, 0), "");
        due(told(new Ticksilo(), 0, AT, 0, 0, QUANTILE, 1000, 0), "");
        due(told(x, 0, NUMBER, 1000, 0, QUANTILE, 1000, 0), "");
        due(told(x, 0, NUMBER, 1000, 0, QUANTILE, 0, 0, QUANTILE, 0, 0), "");
        // What a number leaves is a vector: it joins as one.
        due(told(x, 0, NUMBER, 1000, 0, QUANTILE, 0, 0, NUMBER, 1, 0, PLUS, 0, 0), "");
    }

    @Sentence(under = "ASKING", says = "for each values of the labels 0 and 1, of those with a label 2 from 0 to 5")
    static void quantilesOfEachGroupOnItsOwn() {
        // The same values in groups 00, 45, 54 and 66: those of 45 twice as great, which is the same way.
        Ticksilo x = of(0, 2, 2, 4, 450, 4, 452, 8, 540, 2, 542, 4, 660, 2, 662, 4, 665, 4);
        due(told(x, 0, AT, 0, 0, QUANTILE, 1000, 0), "006=5000 456=5000 546=5000 666=5000");
        due(told(x, 0, AT, 0, 0, QUANTILE, 750, 0), "006=3000 456=3000 546=3000 666=3000");
        due(told(x, 0, AT, 0, 0, QUANTILE, 500, 0), "006=1000 456=1000 546=1000 666=1000");
        due(told(x, 0, AT, 0, 0, QUANTILE, 250, 0), "006=500 456=500 546=500 666=500");
        Ticksilo y = of(661, 2, 664, 4, 665, 8, 334, 1, 335, 2, 120, 1, 125, 2);
        due(told(y, 0, AT, 0, 0, QUANTILE, 1000, 0), "126=1000 336=20000 666=20000");
        due(told(y, 0, AT, 0, 0, QUANTILE, 375, 0), "126=750 336=15000 666=11000");
    }

    @Sentence(under = "ASKING", says = "these are how many lie at or below the bounds 1, 2, 5, 10, 20, and without bound.")
    static void theBoundsOfTheLabels2() {
        String[] bounds = {"1000", "2000", "5000", "10000", "20000", "0"};
        String[] halves = {"500", "1000", "2500", "5000", "10000", "0"};
        for (int two = 0; two <= 5; two++) {
            Ticksilo x = of(two, 4);
            due(told(x, 0, AT, 0, 0, QUANTILE, 1000, 0), "006=" + bounds[two]);
            due(told(x, 0, AT, 0, 0, QUANTILE, 500, 0), "006=" + halves[two]);
            due(told(x, 0, AT, 0, 0, QUANTILE, 0, 0), "006=0");
        }
        due(told(of(6, 4), 0, AT, 0, 0, QUANTILE, 1000, 0), "");
    }

    @Sentence(under = "ASKING", says = "Ranks: q times the greatest of these values, divided by 1000, rounded down.")
    static void ranksAreRoundedDown() {
        // Of 3: ranks 0, 1, 1, 2, 2, 3, each a third of the way to 1.
        int[] q = {0, 333, 334, 666, 667, 999, 1000};
        String[] due = {"0", "0", "333", "333", "666", "666", "1000"};
        for (int i = 0; i < q.length; i++) due(quantile(q[i], 3), "006=" + due[i]);
        due(quantile(999, 1), "006=0");
        due(quantile(1000, 1), "006=1000");
        // The greatest, wherever it is: 4 in the middle, so half of it is 2.
        due(quantile(500, 1, 4, 2), "006=" + (1000 + 1000 / 3));
        due(quantile(1000, 4, 1, 2), "006=1000");
        due(quantile(500, 4, NONE, 3), "006=500");
        due(quantile(250, 2, -1000, 8), "006=1000");
    }

    @Sentence(under = "ASKING", says = "In the first one that is at least the rank, by rising labels 2,")
    static void theFirstThatIsAtLeastTheRank() {
        due(quantile(499, 500, 1000), "006=998");
        due(quantile(500, 500, 1000), "006=1000");
        due(quantile(501, 500, 1000), "006=1002");
        // Later ones that are at least the rank don't matter, nor those that are the same.
        due(quantile(500, 500, 500, 500, 1000), "006=1000");
        due(quantile(501, 500, 500, 500, 1000), "006=5010");
        due(quantile(1000, 7, 7, 7, 7, 7, 7), "006=1000");
        due(quantile(1000, 6, 6, 6, 6, 6, 7), "006=20000");
        due(quantile(1000, 6, 6, 6, 6, 7, 7), "006=20000");
        due(quantile(1000, 6, 6, 6, 7, 7, 7), "006=10000");
    }

    @Sentence(under = "ASKING", says = "it is the bound of the one ahead among these (0 ahead of the first), and, of the way from that to its own bound in thousandths, as much as the rank less the value of the one ahead (0) is of the value less that, rounded down;")
    static void theWayFromTheBoundAhead() {
        // The one ahead among these, over missing labels: from 1 to 20, 1 of 4 of the way.
        due(quantile(250, 0, NONE, NONE, NONE, 4), "006=5750");
        due(quantile(250, NONE, NONE, NONE, NONE, 4), "006=5000");
        due(quantile(1000, NONE, 3, NONE, 5), "006=10000");
        due(quantile(800, NONE, 3, NONE, 5), "006=6000");
        due(quantile(600, NONE, 3, NONE, 5), "006=2000");
        due(quantile(599, NONE, 3, NONE, 5), "006=1333");
        // 1 of 3, 2 of 3, 3 of 7 of the way, rounded down.
        due(quantile(400, NONE, 1, 3, 4), "006=2000");
        due(quantile(500, NONE, 1, 4), "006=3000");
        due(quantile(750, NONE, 1, 4), "006=4000");
        due(quantile(500, 1, 8), "006=1428");
        // Ahead of the first one lie 0 and the value 0.
        due(quantile(0, 5), "006=0");
        due(quantile(200, 5), "006=200");
        // A value below 0 ahead: the rank 0 is 5 of 10 of the way from 1 to 2.
        due(quantile(0, -5, 5), "006=1500");
        due(quantile(0, -5, 0, 5), "006=2000");
        due(quantile(1000, -5, 5), "006=2000");
    }

    @Sentence(under = "ASKING", says = "just the bound of the one ahead, if it is the one without bound, or both values are the same.")
    static void justTheBoundAhead() {
        due(quantile(1000, 1, 2, 3, 4, 5, 6), "006=20000");
        due(quantile(900, NONE, NONE, NONE, NONE, 5, 10), "006=20000");
        due(quantile(900, NONE, NONE, NONE, 5, NONE, 10), "006=10000");
        due(quantile(1000, 5, NONE, NONE, NONE, NONE, 10), "006=1000");
        due(quantile(1000, NONE, NONE, NONE, NONE, NONE, 10), "006=0");
        due(quantile(0, NONE, NONE, NONE, NONE, NONE, 10), "006=0");
        // The rank 0 is met by a first value of 0: as much as the 0 ahead of it.
        due(quantile(0, 0, 4), "006=0");
        due(quantile(0, NONE, 0, 4), "006=0");
        due(quantile(249, 0, 4), "006=0");
        due(quantile(250, 0, 4), "006=1250");
    }

    @Sentence(under = "ASKING", says = "The label 2 is without then.")
    static void theLabel2IsWithoutBehindAQuantile() {
        due(told(of(450, 3), 0, AT, 0, 0, QUANTILE, 1000, 0), "456=1000");
        due(told(of(0, 3, 665, 4), 0, AT, 0, 0, QUANTILE, 1000, 0), "006=1000 666=0");
        due(told(of(0, 3), 0, AT, 0, 0, QUANTILE, 1000, 0, QUANTILE, 1000, 0), "");
    }

    @Sentence(under = "ASKING", says = "Left out, if the greatest is not above 0.")
    static void leftOutIfTheGreatestIsNotAbove0() {
        due(quantile(1000, 0), "");
        due(quantile(0, 0), "");
        due(quantile(1000, 1), "006=1000");
        due(quantile(1000, -5, 0, -5), "");
        due(quantile(1000, -5, -4), "");
        due(quantile(1000, -5, 0, 1), "006=5000");
        // Left out of several, and those without a label 2 don't mend it.
        due(told(of(0, 0, 6, 9, 10, 1, 20, -1), 0, AT, 0, 0, QUANTILE, 1000, 0), "016=1000");
    }

    @Sentence(under = "ASKING", says = "as much as the rank less the value of the one ahead (0) is of the value less that, rounded down;")
    static void quantilesOfValuesAtTheirBounds() {
        Ticksilo x = of(0, -1000000, 4, 1000000, 100, 1000000, 114, 1000000);
        due(told(x, 0, join(GREAT, new int[] {QUANTILE, 1000, 0})), "006=20000 106=1000 116=20000");
        // The rank 0 is half of the way from 1 to 20.
        due(told(x, 0, join(GREAT, new int[] {QUANTILE, 0, 0})), "006=10500 106=0 116=0");
        due(told(x, 0, join(GREAT, new int[] {QUANTILE, 500, 0})), "006=15250 106=500 116=10000");
    }
}
