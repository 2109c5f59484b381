/** Boundary cases of alerts, silences and notices: RULES, ALERTS and the promises 20 to 26. */
final class AlertEdges extends Due {
    /** A new one at the time 9 with an alert for each series whose latest sample is not STALE, and one such series. */
    private static Ticksilo watching(int wait, int keep) {
        Ticksilo x = with(9, 9, 1);
        draft(x, AT, 0, 0);
        x.alert(wait, keep);
        return x;
    }

    /** A new one with an alert for a number: it is there at each look. */
    private static Ticksilo counting(int thousandths, int wait, int keep) {
        Ticksilo x = new Ticksilo();
        draft(x, NUMBER, thousandths, 0);
        x.alert(wait, keep);
        return x;
    }

    private static void addAlert(Ticksilo x, int wait, int keep) {
        draft(x, AT, 0, 0);
        x.alert(wait, keep);
    }

    /** The entries of an alert, each as its labels, w or f, since when, and t if it was told. */
    private static String entriesOf(Ticksilo x, int alert) {
        StringBuilder text = new StringBuilder();
        int many = x.entries(alert, false);
        for (int i = 0; i < many; i++) {
            text.append(i == 0 ? "" : " ").append(String.format("%03d", x.entry(alert, i, 0)));
            text.append(x.entry(alert, i, 1) == FIRING ? 'f' : 'w').append(x.entry(alert, i, 2));
            text.append(x.entry(alert, i, 3) == 1 ? "t" : "");
        }
        return text.toString();
    }

    /** The notices from a number on, each as alert:labels@time. */
    private static String noticesFrom(Ticksilo x, int from) {
        StringBuilder text = new StringBuilder();
        for (int i = from; i < x.notices(); i++) {
            text.append(i == from ? "" : " ").append(x.notice(i, 0)).append(':');
            text.append(String.format("%03d", x.notice(i, 1))).append('@').append(x.notice(i, 2));
        }
        return text.toString();
    }

    // ---- RULES, ALERTS

    @Sentence(under = "RULES, ALERTS", says = "An alert looks at its vector (a number above 0 is a vector of a value without labels; others are none, and so is what fails).")
    static void aNumberAbove0IsAVector() {
        int[] numbers = {1, 1000000, 0, -1, -1000000};
        String[] due = {"666f10t", "666f10t", "", "", ""};
        for (int i = 0; i < numbers.length; i++) {
            Ticksilo x = counting(numbers[i], 0, 0);
            x.pass(10);
            due(entriesOf(x, 0), due[i]);
            due(x.notices(), due[i].isEmpty() ? 0 : 1);
        }
    }

    @Sentence(under = "RULES, ALERTS", says = "An alert looks at its vector")
    static void eachValueOfAVectorIsAnEntry() {
        Ticksilo x = at(9);
        x.write(0, 0, 0, 9, 0);
        x.write(0, 0, 1, 9, -1000000);
        x.write(0, 0, 2, 9, STALE);
        addAlert(x, 0, 0);
        draft(x, AT, 0, 0, SUM, 0, 0);
        x.alert(0, 0);
        x.select(1, 0, 0, 0);
        draft(x, AT, 1, 0);
        x.alert(0, 0);
        x.pass(1);
        due(entriesOf(x, 0), "000f10t 001f10t");
        due(entriesOf(x, 1), "666f10t");
        due(entriesOf(x, 2), "");
        // As many as a vector can have.
        Ticksilo y = at(9);
        for (int i = 0; i < 12; i++) y.write(i / 6, i % 6, 6, 9, i);
        addAlert(y, 0, 0);
        y.pass(1);
        due(y.entries(0, false), 12);
        due(y.entry(0, 0, 0), 6);
        due(y.entry(0, 11, 0), 156);
        due(y.notices(), 12);
    }

    @Sentence(under = "RULES, ALERTS", says = "and so is what fails")
    static void whatFailsIsNoVector() {
        Ticksilo x = with(9, 9, 1);
        draft(x, NUMBER, 1, 0, NUMBER, 0, 0, PER, 0, 0);
        x.alert(0, 0);
        draft(x, AT, 0, 0, AT, 0, 0, PLUS, 0, 0);
        x.alert(0, 10);
        x.pass(1);
        due(entriesOf(x, 0), "");
        due(entriesOf(x, 1), "000f10t");
        // With a second series it fails: the entry is not there any more.
        x.write(0, 0, 1, 10, 1);
        x.pass(10);
        due(entriesOf(x, 1), "000f10t");
        x.pass(10);
        due(entriesOf(x, 1), "");
    }

    @Sentence(under = "RULES, ALERTS", says = "An entry of its labels that is there for the first time, or again behind being over, is WAITING since then.")
    static void waitingSinceTheFirstLook() {
        Ticksilo x = watching(1000, 0);
        due(entriesOf(x, 0), "");
        x.pass(1);
        due(entriesOf(x, 0), "000w10");
        x.pass(10);
        due(entriesOf(x, 0), "000w10");
        x.write(0, 0, 0, 20, STALE);
        x.pass(10);
        due(entriesOf(x, 0), "");
        x.write(0, 0, 0, 30, 1);
        x.pass(9);
        due(entriesOf(x, 0), "");
        x.pass(1);
        due(entriesOf(x, 0), "000w40");
        // Behind being over as a FIRING one, too.
        Ticksilo y = watching(10, 0);
        y.pass(11);
        due(entriesOf(y, 0), "000f20t");
        y.write(0, 0, 0, 20, STALE);
        y.pass(10);
        due(entriesOf(y, 0), "");
        y.write(0, 0, 0, 30, 1);
        y.pass(10);
        due(entriesOf(y, 0), "000w40");
        y.pass(10);
        due(entriesOf(y, 0), "000f50t");
        due(noticesFrom(y, 0), "0:000@20 0:000@50");
    }

    @Sentence(under = "RULES, ALERTS", says = "One that is WAITING, and is there, fires if it has waited as long as the alert tells, or longer, right at the first look if that is 0.")
    static void itFiresWhenItHasWaited() {
        int[] waits = {0, 1, 9, 10, 11, 19, 20, 21, 30};
        int[] fires = {10, 20, 20, 20, 30, 30, 30, 40, 40};
        for (int i = 0; i < waits.length; i++) {
            Ticksilo x = counting(1, waits[i], 0);
            for (int t = 10; t <= 50; t += 10) {
                x.pass(10);
                due(entriesOf(x, 0), t < fires[i] ? "666w10" : "666f" + fires[i] + "t");
            }
            due(noticesFrom(x, 0), "0:666@" + fires[i]);
        }
        Ticksilo x = counting(1, 1000, 0);
        passOn(x, 1009);
        due(entriesOf(x, 0), "666w10");
        x.pass(1);
        due(entriesOf(x, 0), "666f1010t");
        Ticksilo y = counting(1, 991, 0);
        passOn(y, 1000);
        due(entriesOf(y, 0), "666w10");
        y.pass(10);
        due(entriesOf(y, 0), "666f1010t");
    }

    @Sentence(under = "RULES, ALERTS", says = "One that is WAITING and not there any more is over.")
    static void aWaitingOneIsOverAtOnce() {
        Ticksilo x = watching(20, 1000);
        x.pass(11);
        due(entriesOf(x, 0), "000w10");
        x.write(0, 0, 0, 20, STALE);
        // At 30 it would have waited long enough.
        x.pass(10);
        due(entriesOf(x, 0), "");
        due(x.notices(), 0);
        x.write(0, 0, 0, 30, 1);
        x.pass(30);
        due(entriesOf(x, 0), "000f60t");
    }

    @Sentence(under = "RULES, ALERTS", says = "One that is FIRING and not there is over, if it was there last more than as long ago as the alert keeps it.")
    static void aFiringOneIsKept() {
        int[] keeps = {0, 1, 9, 10, 11, 19, 20, 21, 30};
        int[] over = {20, 20, 20, 30, 30, 30, 40, 40, 50};
        for (int i = 0; i < keeps.length; i++) {
            Ticksilo x = watching(0, keeps[i]);
            x.pass(1);
            x.write(0, 0, 0, 10, STALE);
            for (int t = 20; t <= 60; t += 10) {
                x.pass(10);
                due(entriesOf(x, 0), t < over[i] ? "000f10t" : "");
            }
            due(x.notices(), 1);
        }
        Ticksilo x = watching(0, 1000);
        x.pass(1);
        x.write(0, 0, 0, 10, STALE);
        passOn(x, 1009);
        due(entriesOf(x, 0), "000f10t");
        x.pass(1);
        due(entriesOf(x, 0), "");
    }

    @Sentence(under = "RULES, ALERTS", says = "if it was there last more than as long ago as the alert keeps it.")
    static void aKeptOneThatIsThereAgainGoesOn() {
        Ticksilo x = watching(10, 20);
        x.pass(11);
        due(entriesOf(x, 0), "000f20t");
        x.write(0, 0, 0, 20, STALE);
        x.pass(20);
        due(entriesOf(x, 0), "000f20t");
        x.write(0, 0, 0, 40, 1);
        x.pass(10);
        due(entriesOf(x, 0), "000f20t");
        // It is kept anew from the time when it was there last.
        x.write(0, 0, 0, 50, STALE);
        x.pass(20);
        due(entriesOf(x, 0), "000f20t");
        x.pass(10);
        due(entriesOf(x, 0), "");
        due(x.notices(), 1);
    }

    @Sentence(under = "RULES, ALERTS", says = "An alert can be inhibited by one lower alert: while that has a FIRING entry with the same label 0, as it is when the higher one has been gone through.")
    static void aFiringEntryWithTheSameLabel0Inhibits() {
        Ticksilo x = at(9);
        x.write(0, 0, 0, 9, 1);
        x.select(0, 1, 1, ALL);
        addAlert(x, 0, 0);
        x.write(0, 5, 6, 9, 1);
        x.write(5, 0, 0, 9, 1);
        x.write(6, 0, 0, 9, 1);
        x.select(0, ALL, ALL, ALL);
        addAlert(x, 0, 0);
        x.inhibit(1, 0);
        x.pass(1);
        due(noticesFrom(x, 0), "0:000@10 1:500@10 1:600@10");
        due(entriesOf(x, 1), "000f10 056f10 500f10t 600f10t");
        x.pass(10);
        due(x.notices(), 3);
        // The lower one is over at 30, ahead of the look of the higher one.
        x.write(0, 0, 0, 20, STALE);
        x.pass(10);
        due(noticesFrom(x, 3), "1:056@30");
    }

    @Sentence(under = "RULES, ALERTS", says = "while that has a FIRING entry with the same label 0")
    static void aWaitingEntryDoesNotInhibit() {
        Ticksilo x = watching(10, 0);
        addAlert(x, 0, 0);
        addAlert(x, 10, 0);
        x.inhibit(1, 0);
        x.inhibit(2, 0);
        x.pass(1);
        due(noticesFrom(x, 0), "1:000@10");
        x.pass(10);
        // It fires at 20, ahead of alert 2, that fires at 20 too.
        due(noticesFrom(x, 1), "0:000@20");
        due(entriesOf(x, 2), "000f20");
        due(entriesOf(x, 1), "000f10t");
    }

    @Sentence(under = "RULES, ALERTS", says = "while that has a FIRING entry with the same label 0")
    static void aKeptEntryInhibitsAndSoDoesOneThatIsInhibitedItself() {
        Ticksilo x = watching(0, 10);
        addAlert(x, 0, 100);
        addAlert(x, 0, 100);
        x.inhibit(1, 0);
        x.inhibit(2, 1);
        x.pass(1);
        due(noticesFrom(x, 0), "0:000@10");
        x.write(0, 0, 0, 10, STALE);
        x.pass(10);
        due(entriesOf(x, 0), "000f10t");
        due(x.notices(), 1);
        x.pass(10);
        // Alert 1 is told at 30; it goes on to inhibit alert 2.
        due(entriesOf(x, 0), "");
        due(noticesFrom(x, 1), "1:000@30");
        x.inhibit(2, NONE);
        x.pass(10);
        due(noticesFrom(x, 2), "2:000@40");
    }

    @Sentence(under = "RULES, ALERTS", says = "a FIRING entry with the same label 0")
    static void eachLabel0InhibitsJustItself() {
        for (int zero = 0; zero <= 6; zero++) {
            for (int other = 0; other <= 6; other += 6) {
                Ticksilo x = at(9);
                x.write(zero, 0, 0, 9, 1);
                x.write(zero, 6, 6, 9, 1);
                if (zero > 0) x.write(zero - 1, 6, 6, 9, 1);
                if (zero < 6) x.write(zero + 1, 0, 0, 9, 1);
                // Alert 0 sees one of the two with the label 0, alert 1 all.
                x.select(1, 1 << zero, 1 << other, 1 << other);
                draft(x, AT, 1, 0);
                x.alert(0, 0);
                addAlert(x, 0, 0);
                x.inhibit(1, 0);
                x.pass(1);
                due(noticesFrom(x, 0), "0:" + zero + other + other + "@10"
                    + (zero > 0 ? " 1:" + (zero - 1) + "66@10" : "") + (zero < 6 ? " 1:" + (zero + 1) + "00@10" : ""));
            }
        }
    }

    @Sentence(under = "RULES, ALERTS", says = "with the same label 0")
    static void beingWithoutLabel0IsTheSame() {
        Ticksilo x = new Ticksilo();
        draft(x, NUMBER, 1, 0);
        x.alert(0, 0);
        draft(x, NUMBER, 1, 0);
        x.alert(0, 0);
        x.inhibit(1, 0);
        x.pass(10);
        due(noticesFrom(x, 0), "0:666@10");
        due(entriesOf(x, 1), "666f10");
    }

    @Sentence(under = "RULES, ALERTS", says = "Silences are for a selector, up to a time, included.")
    static void silencesEndBehindTheirTime() {
        int[] until = {0, 9, 10, 19, 20, 29, 30, LAST};
        int[] told = {10, 10, 20, 20, 30, 30, 40, 0};
        for (int i = 0; i < until.length; i++) {
            Ticksilo x = counting(1, 0, 0);
            due(x.silence(0, until[i]), 1);
            for (int t = 10; t <= 50; t += 10) {
                x.pass(10);
                due(x.notices(), told[i] > 0 && t >= told[i] ? 1 : 0);
                due(entriesOf(x, 0), told[i] > 0 && t >= told[i] ? "666f10t" : "666f10");
            }
            due(noticesFrom(x, 0), told[i] > 0 ? "0:666@" + told[i] : "");
        }
    }

    @Sentence(under = "RULES, ALERTS", says = "Silences are for a selector")
    static void silencesAreForWhatTheSelectorSelects() {
        Ticksilo x = at(9);
        x.write(0, 1, 2, 9, 1);
        x.write(0, 1, 6, 9, 1);
        x.write(3, 1, 2, 9, 1);
        addAlert(x, 0, 0);
        draft(x, AT, 0, 0, SUM, 2, 0);
        x.alert(0, 0);
        x.select(1, 1, ALL, 4);
        x.silence(1, 50);
        x.select(2, 0, 0, 0);
        x.silence(2, LAST);
        x.select(3, 64, 2, 64);
        x.silence(3, 20);
        x.pass(1);
        due(noticesFrom(x, 0), "0:016@10 0:312@10");
        x.pass(10);
        due(x.notices(), 2);
        x.pass(10);
        due(noticesFrom(x, 2), "1:616@30");
        x.pass(20);
        due(x.notices(), 3);
        // At 60 what was written at 9 is 51 old, and over; 012 goes on.
        x.write(0, 1, 2, 50, 1);
        x.pass(10);
        due(noticesFrom(x, 3), "0:012@60");
    }

    @Sentence(under = "RULES, ALERTS", says = "Behind each look, in order of labels, a FIRING entry that was not told since it began to fire, and is neither inhibited nor silenced, is told.")
    static void entriesAreToldInOrderOfLabelsAndOnce() {
        Ticksilo x = at(9);
        int[] labels = {666, 600, 60, 6, 5, 50, 500};
        for (int l : labels) put(x, l, 9, 1);
        addAlert(x, 0, 0);
        addAlert(x, 10, 0);
        x.pass(1);
        due(noticesFrom(x, 0), "0:005@10 0:006@10 0:050@10 0:060@10 0:500@10 0:600@10 0:666@10");
        x.pass(10);
        due(noticesFrom(x, 7), "1:005@20 1:006@20 1:050@20 1:060@20 1:500@20 1:600@20 1:666@20");
        x.pass(10);
        due(x.notices(), 14);
    }

    @Sentence(under = "RULES, ALERTS", says = "a FIRING entry that was not told since it began to fire, and is neither inhibited nor silenced, is told.")
    static void aKeptEntryIsToldBehindItsSilence() {
        Ticksilo x = watching(0, 30);
        x.silence(0, 20);
        x.pass(1);
        due(entriesOf(x, 0), "000f10");
        x.write(0, 0, 0, 10, STALE);
        x.pass(10);
        due(x.notices(), 0);
        // It is not there, but FIRING, and is told when the silence has ended.
        x.pass(10);
        due(noticesFrom(x, 0), "0:000@30");
        due(entriesOf(x, 0), "000f10t");
        // A silence or an inhibiting alert that comes later takes nothing back.
        x.silence(0, LAST);
        x.pass(10);
        due(entriesOf(x, 0), "000f10t");
        x.pass(10);
        due(entriesOf(x, 0), "");
        // Silenced, inhibited, and both.
        Ticksilo y = watching(0, 0);
        addAlert(y, 0, 0);
        y.inhibit(1, 0);
        y.silence(0, 20);
        y.pass(11);
        due(y.notices(), 0);
        y.pass(10);
        due(noticesFrom(y, 0), "0:000@30");
        y.inhibit(1, NONE);
        y.silence(0, 40);
        y.pass(10);
        due(y.notices(), 1);
        y.pass(10);
        due(noticesFrom(y, 1), "1:000@50");
    }

    // ---- Promise 20

    @Sentence(under = "Promise 20", says = "Makes the draft an alert; it is empty then.")
    static void theDraftIsEmptyBehindAnAlert() {
        Ticksilo x = new Ticksilo();
        for (int i = 0; i < 10; i++) x.word(i == 0 ? NUMBER : SUM, i == 0 ? 9000 : 0, 0);
        due(x.alert(0, 0), 0);
        due(x.clear(), 0);
        state(() -> x.ask(0));
        for (int i = 1; i <= 10; i++) due(x.word(NUMBER, -1, 0), i);
        x.clear();
        x.pass(10);
        due(entriesOf(x, 0), "666f10t");
    }

    @Sentence(under = "Promise 20", says = "wait: 0 to 1000")
    static void alertsWait0To1000() {
        Ticksilo x = new Ticksilo();
        draft(x, NUMBER, 1, 0);
        argumentsOutside(0, 1000, wait -> x.alert(wait, 0));
        due(x.alert(0, 0), 0);
        draft(x, NUMBER, 1, 0);
        due(x.alert(1000, 0), 1);
        passOn(x, 1000);
        due(entriesOf(x, 0), "666f10t");
        due(entriesOf(x, 1), "666w10");
    }

    @Sentence(under = "Promise 20", says = "keep: 0 to 1000")
    static void alertsKeep0To1000() {
        Ticksilo x = with(9, 9, 1);
        draft(x, AT, 0, 0);
        argumentsOutside(0, 1000, keep -> x.alert(0, keep));
        due(x.alert(0, 0), 0);
        draft(x, AT, 0, 0);
        due(x.alert(0, 1000), 1);
        x.pass(1);
        x.write(0, 0, 0, 10, STALE);
        x.pass(10);
        due(entriesOf(x, 0), "");
        due(entriesOf(x, 1), "000f10t");
    }

    @Sentence(under = "Promise 20", says = "Returns its number, among rules and alerts, from 0.")
    static void alertsAreNumberedAmongRules() {
        Ticksilo x = counting(1, 0, 0);
        draft(x, NUMBER, 1, 0);
        due(x.record(0), 2);
        draft(x, NUMBER, 1, 0);
        due(x.alert(0, 0), 2);
        for (int i = 3; i < 8; i++) {
            draft(x, NUMBER, 1, 0);
            due(x.alert(0, 0), i);
        }
        x.pass(10);
        due(noticesFrom(x, 0), "0:666@10 2:666@10 3:666@10 4:666@10 5:666@10 6:666@10 7:666@10");
    }

    @Sentence(under = "Promise 20", says = "Throws IllegalArgumentException if wait or keep is out of range")
    static void alertRefusesMinus1And1001() {
        Ticksilo x = new Ticksilo();
        draft(x, NUMBER, 1, 0);
        argument(() -> x.alert(-1, 0));
        argument(() -> x.alert(1001, 0));
        argument(() -> x.alert(0, -1));
        argument(() -> x.alert(0, 1001));
        due(x.clear(), 1);
        index(() -> x.entries(0, false));
    }

    @Sentence(under = "Promise 20", says = "Throws IllegalStateException if the draft does not leave just one result, or there are 8")
    static void alertRefusesDraftsAndANinth() {
        Ticksilo x = new Ticksilo();
        state(() -> x.alert(0, 0));
        x.word(NUMBER, 1, 0);
        x.word(NUMBER, 1, 0);
        state(() -> x.alert(0, 0));
        due(x.clear(), 2);
        for (int i = 0; i < 8; i++) {
            draft(x, NUMBER, 1, 0);
            if (i == 3) due(x.record(0), 4);
            else due(x.alert(0, 0), i);
        }
        draft(x, NUMBER, 1, 0);
        state(() -> x.alert(0, 0));
        due(x.clear(), 1);
        index(() -> x.entries(8, false));
    }

    // ---- Promise 21

    /** Eight rules and alerts: rules are 0, 3 and 6. */
    private static Ticksilo ofEight() {
        Ticksilo x = new Ticksilo();
        for (int i = 0; i < 8; i++) {
            draft(x, NUMBER, 1, 0);
            if (i % 3 == 0) x.record(0);
            else x.alert(0, 0);
        }
        return x;
    }

    @Sentence(under = "Promise 21", says = "alert: its number")
    static void justAlertsAreInhibited() {
        Ticksilo x = ofEight();
        int[] alerts = {1, 2, 4, 5, 7};
        for (int a : alerts) due(x.inhibit(a, NONE), NONE);
        int[] rules = {0, 3, 6};
        for (int r : rules) index(() -> x.inhibit(r, NONE));
        indexesOutside(0, 7, a -> x.inhibit(a, NONE));
        indexesOutside(0, 7, a -> x.inhibit(a, 1));
        indexesOutside(0, -1, a -> new Ticksilo().inhibit(a, NONE));
    }

    @Sentence(under = "Promise 21", says = "other: a lower alert, NONE for none")
    static void justLowerAlertsInhibit() {
        Ticksilo x = ofEight();
        int before = NONE;
        for (int other = -3; other <= 9; other++) {
            int o = other;
            boolean fine = o == NONE || o == 1 || o == 2 || o == 4;
            if (fine) {
                due(x.inhibit(5, o), before);
                before = o;
            } else {
                index(() -> x.inhibit(5, o));
            }
        }
        for (int far : FAR) index(() -> x.inhibit(5, far));
        due(x.inhibit(5, NONE), 4);
        due(x.inhibit(1, NONE), NONE);
        index(() -> x.inhibit(1, 0));
        index(() -> x.inhibit(1, 1));
    }

    @Sentence(under = "Promise 21", says = "Lets an alert be inhibited by a lower one, in place of one before.")
    static void oneInhibitorTakesThePlaceOfAnother() {
        Ticksilo x = new Ticksilo();
        draft(x, NUMBER, 1, 0);
        x.alert(0, 0);
        draft(x, NUMBER, 1, 0);
        x.alert(1000, 0);
        draft(x, NUMBER, 1, 0);
        x.alert(0, 0);
        x.inhibit(2, 0);
        // Alert 1 does not fire: it takes the place of alert 0.
        x.inhibit(2, 1);
        x.pass(10);
        due(noticesFrom(x, 0), "0:666@10 2:666@10");
    }

    @Sentence(under = "Promise 21", says = "Returns the one before, NONE without.")
    static void inhibitReturnsTheOneBefore() {
        Ticksilo x = ofEight();
        due(x.inhibit(7, 1), -1);
        due(x.inhibit(7, 1), 1);
        due(x.inhibit(7, 5), 1);
        due(x.inhibit(5, 4), NONE);
        due(x.inhibit(7, NONE), 5);
        due(x.inhibit(7, NONE), NONE);
        due(x.inhibit(5, NONE), 4);
    }

    @Sentence(under = "Promise 21", says = "Throws IndexOutOfBoundsException if there is no such alert, of either, or other is not lower")
    static void inhibitRefusesWhatIsNoAlertOrNotLower() {
        Ticksilo x = ofEight();
        index(() -> x.inhibit(0, NONE));
        index(() -> x.inhibit(8, 1));
        index(() -> x.inhibit(4, 3));
        index(() -> x.inhibit(4, 4));
        index(() -> x.inhibit(4, 5));
        index(() -> x.inhibit(4, -2));
        index(() -> x.inhibit(4, 8));
        due(x.inhibit(4, 2), NONE);
    }

    // ---- Promise 22

    @Sentence(under = "Promise 22", says = "Silences what a selector selects, as it is now, of all alerts.")
    static void silencesTakeTheSelectorAsItIs() {
        Ticksilo x = watching(0, 0);
        addAlert(x, 0, 0);
        x.select(1, 1, ALL, ALL);
        x.silence(1, 10);
        x.select(1, 0, 0, 0);
        x.write(1, 0, 0, 9, 1);
        x.pass(1);
        due(noticesFrom(x, 0), "0:100@10 1:100@10");
        x.pass(10);
        due(noticesFrom(x, 2), "0:000@20 1:000@20");
    }

    @Sentence(under = "Promise 22", says = "selector: 0 to 3")
    static void silencesTakeTheSelectors0To3() {
        Ticksilo x = at(9);
        for (int i = 0; i < 4; i++) {
            x.write(0, 0, i, 9, 1);
            x.select(i, ALL, ALL, 1 << i);
        }
        for (int s = 0; s <= 3; s++) due(x.silence(s, 10 * s), s + 1);
        indexesOutside(0, 3, s -> x.silence(s, 0));
        x.select(0, ALL, ALL, ALL);
        addAlert(x, 0, 0);
        x.pass(31);
        due(noticesFrom(x, 0), "0:000@10 0:001@20 0:002@30 0:003@40");
    }

    @Sentence(under = "Promise 22", says = "until: 0 to 100000")
    static void silencesLastUntil0To100000() {
        Ticksilo x = new Ticksilo();
        argumentsOutside(0, LAST, until -> x.silence(0, until));
        due(x.silence(0, 0), 1);
        due(x.silence(0, LAST), 2);
        draft(x, NUMBER, 1, 0);
        x.alert(0, 0);
        passOn(x, 1000);
        due(x.notices(), 0);
    }

    @Sentence(under = "Promise 22", says = "Returns how many silences were told.")
    static void silenceCountsFrom1To10() {
        Ticksilo x = new Ticksilo();
        for (int i = 1; i <= 10; i++) due(x.silence(i % 4, i), i);
        state(() -> x.silence(0, 0));
    }

    @Sentence(under = "Promise 22", says = "Throws IndexOutOfBoundsException if there is no such selector")
    static void noSilenceWithoutASelector() {
        Ticksilo x = new Ticksilo();
        index(() -> x.silence(-1, 0));
        index(() -> x.silence(4, LAST));
        due(x.silence(3, 0), 1);
    }

    @Sentence(under = "Promise 22", says = "Throws IllegalArgumentException if until is out of range")
    static void noSilenceUntilMinus1() {
        Ticksilo x = new Ticksilo();
        argument(() -> x.silence(0, -1));
        argument(() -> x.silence(3, LAST + 1));
        due(x.silence(0, LAST), 1);
    }

    @Sentence(under = "Promise 22", says = "Throws IllegalStateException if 10 were told")
    static void noEleventhSilence() {
        Ticksilo x = new Ticksilo();
        for (int i = 1; i <= 10; i++) due(x.silence(0, 0), i);
        x.pass(100);
        // Those that have ended count, too.
        state(() -> x.silence(0, LAST));
        draft(x, NUMBER, 1, 0);
        x.alert(0, 0);
        x.pass(10);
        due(x.notices(), 1);
    }

    @Sentence(under = "Promise 22", says = "if 10 were told")
    static void theTenthSilenceCounts() {
        Ticksilo x = counting(1, 0, 0);
        x.select(1, 0, 0, 0);
        for (int i = 1; i <= 9; i++) x.silence(1, LAST);
        due(x.silence(0, 20), 10);
        x.pass(20);
        due(x.notices(), 0);
        x.pass(10);
        due(x.notices(), 1);
    }

    // ---- Promise 23 to 26

    @Sentence(under = "Promise 23", says = "Returns how many entries an alert has. alert: its number")
    static void entriesOfJustAlerts() {
        Ticksilo x = ofEight();
        x.pass(10);
        int[] alerts = {1, 2, 4, 5, 7};
        for (int a : alerts) due(x.entries(a, false), 1);
        int[] rules = {0, 3, 6};
        for (int r : rules) index(() -> x.entries(r, false));
        for (int r : rules) index(() -> x.entries(r, true));
        indexesOutside(0, 7, a -> x.entries(a, false));
        indexesOutside(0, 7, a -> x.entries(a, true));
    }

    @Sentence(under = "Promise 23", says = "firing: whether just those that are FIRING are counted")
    static void entriesFromNoneTo12() {
        Ticksilo x = at(9);
        addAlert(x, 10, 0);
        x.pass(1);
        due(x.entries(0, false), 0);
        due(x.entries(0, true), 0);
        for (int i = 0; i < 6; i++) x.write(0, i, 6, 10, 1);
        x.pass(10);
        due(x.entries(0, false), 6);
        due(x.entries(0, true), 0);
        for (int i = 0; i < 6; i++) x.write(1, i, 6, 20, 1);
        x.pass(10);
        due(x.entries(0, false), 12);
        due(x.entries(0, true), 6);
        x.pass(10);
        due(x.entries(0, false), 12);
        due(x.entries(0, true), 12);
    }

    @Sentence(under = "Promise 23", says = "Returns how many. Throws IndexOutOfBoundsException if there is no such alert")
    static void noEntriesOfNoAlert() {
        Ticksilo x = new Ticksilo();
        indexesOutside(0, -1, a -> x.entries(a, false));
        draft(x, NUMBER, 1, 0);
        x.record(0);
        index(() -> x.entries(0, true));
        draft(x, NUMBER, 1, 0);
        x.alert(0, 0);
        due(x.entries(1, true), 0);
        index(() -> x.entries(2, true));
    }

    @Sentence(under = "Promise 24", says = "alert: its number")
    static void entryOfJustAlerts() {
        Ticksilo x = ofEight();
        x.pass(10);
        due(x.entry(1, 0, 0), 666);
        due(x.entry(7, 0, 0), 666);
        index(() -> x.entry(0, 0, 0));
        index(() -> x.entry(6, 0, 0));
        indexesOutside(0, 7, a -> x.entry(a, 0, 0));
    }

    @Sentence(under = "Promise 24", says = "entry: 0 for the first one, in the order of labels")
    static void entriesStandInOrderOfLabels() {
        Ticksilo x = with(9, 9, 1);
        addAlert(x, 0, 1000);
        indexesOutside(0, -1, e -> x.entry(0, e, 0));
        x.pass(1);
        indexesOutside(0, 0, e -> x.entry(0, e, 0));
        // Those that come later find their places among those that are there, or are kept.
        x.write(0, 0, 0, 10, STALE);
        put(x, 6, 10, 1);
        x.pass(10);
        put(x, 3, 20, 1);
        put(x, 600, 20, 1);
        put(x, 60, 20, 1);
        x.pass(10);
        due(entriesOf(x, 0), "000f10t 003f30t 006f20t 060f30t 600f30t");
        indexesOutside(0, 4, e -> x.entry(0, e, 0));
    }

    @Sentence(under = "Promise 24", says = "what: 0 its labels, as labels() tells; 1 WAITING or FIRING; 2 since when it is that; 3 whether it was told since then, 1 or 0")
    static void whatAnEntryTells() {
        Ticksilo x = with(9, 9, 1);
        put(x, 666, 9, 1);
        addAlert(x, 10, 0);
        x.select(1, 64, ALL, ALL);
        x.silence(1, 20);
        x.pass(1);
        int[] waiting = {0, WAITING, 10, 0};
        int[] firing = {0, FIRING, 20, 1};
        int[] silent = {666, FIRING, 20, 0};
        for (int what = 0; what <= 3; what++) due(x.entry(0, 0, what), waiting[what]);
        x.pass(10);
        for (int what = 0; what <= 3; what++) due(x.entry(0, 0, what), firing[what]);
        for (int what = 0; what <= 3; what++) due(x.entry(0, 1, what), silent[what]);
        argumentsOutside(0, 3, what -> x.entry(0, 0, what));
        x.pass(10);
        due(x.entry(0, 1, 3), 1);
        due(x.entry(0, 1, 2), 20);
    }

    @Sentence(under = "Promise 24", says = "Throws IndexOutOfBoundsException if there is no such alert or entry")
    static void noEntryWithoutAnAlert() {
        Ticksilo x = new Ticksilo();
        index(() -> x.entry(0, 0, 0));
        draft(x, NUMBER, 1, 0);
        x.alert(0, 0);
        index(() -> x.entry(0, 0, 0));
        x.pass(10);
        due(x.entry(0, 0, 0), 666);
        index(() -> x.entry(0, 1, 0));
        index(() -> x.entry(0, -1, 0));
        index(() -> x.entry(1, 0, 0));
        index(() -> x.entry(-1, 0, 0));
    }

    @Sentence(under = "Promise 24", says = "Throws IllegalArgumentException if what is out of range")
    static void entryRefusesMinus1And4() {
        Ticksilo x = counting(1, 0, 0);
        x.pass(10);
        argument(() -> x.entry(0, 0, -1));
        argument(() -> x.entry(0, 0, 4));
        due(x.entry(0, 0, 3), 1);
    }

    /** 64 notices: eight alerts, and eight series that come up one by one. */
    private static Ticksilo withNotices() {
        Ticksilo x = new Ticksilo();
        for (int i = 0; i < 8; i++) addAlert(x, 0, 0);
        for (int i = 0; i < 8; i++) {
            due(x.notices(), 8 * i);
            x.write(i % 6, i / 6, 0, 10 * i, 1);
            x.pass(10);
        }
        return x;
    }

    @Sentence(under = "Promise 25", says = "Returns how often something was told.")
    static void noticesFromNoneToMoreThanAreKept() {
        due(new Ticksilo().notices(), 0);
        due(counting(0, 0, 0).notices(), 0);
        Ticksilo x = counting(1, 0, 0);
        x.pass(9);
        due(x.notices(), 0);
        x.pass(1);
        due(x.notices(), 1);
        Ticksilo y = withNotices();
        due(y.notices(), 64);
        y.write(5, 5, 5, 80, 1);
        y.pass(10);
        // The first two series are there no more, and their entries over; 8 more are told of the last one.
        due(y.notices(), 72);
    }

    @Sentence(under = "Promise 26", says = "Tells something of a notice; the first 60 are kept.")
    static void theFirst60NoticesAreKept() {
        Ticksilo x = withNotices();
        for (int i = 0; i < 60; i++) {
            int series = i / 8;
            due(x.notice(i, 0), i % 8);
            due(x.notice(i, 1), 100 * (series % 6) + 10 * (series / 6));
            due(x.notice(i, 2), 10 * series + 10);
        }
        for (int i = 60; i <= 64; i++) {
            int notice = i;
            index(() -> x.notice(notice, 0));
        }
    }

    @Sentence(under = "Promise 26", says = "notice: 0 for the first one")
    static void noticesBeginAt0() {
        Ticksilo x = counting(1, 0, 0);
        indexesOutside(0, -1, n -> x.notice(n, 0));
        x.pass(10);
        due(x.notice(0, 2), 10);
        indexesOutside(0, 0, n -> x.notice(n, 0));
        Ticksilo y = withNotices();
        due(y.notice(59, 2), 80);
        indexesOutside(0, 59, n -> y.notice(n, 2));
    }

    @Sentence(under = "Promise 26", says = "what: 0 the alert; 1 the labels, as labels() tells; 2 the time")
    static void whatANoticeTells() {
        Ticksilo x = at(9);
        draft(x, NUMBER, 0, 0);
        x.record(0);
        x.write(1, 0, 6, 9, 1);
        x.select(0, 2, ALL, ALL);
        addAlert(x, 10, 0);
        x.pass(11);
        int[] due = {1, 106, 20};
        for (int what = 0; what <= 2; what++) due(x.notice(0, what), due[what]);
        argumentsOutside(0, 2, what -> x.notice(0, what));
    }

    @Sentence(under = "Promise 26", says = "Throws IndexOutOfBoundsException if there is no such notice, or it is not kept")
    static void noNoticeThatIsNotKept() {
        Ticksilo none = new Ticksilo();
        index(() -> none.notice(0, 0));
        Ticksilo x = withNotices();
        due(x.notice(59, 0), 3);
        index(() -> x.notice(60, 0));
        index(() -> x.notice(63, 0));
        index(() -> x.notice(64, 0));
        index(() -> x.notice(-1, 0));
    }

    @Sentence(under = "Promise 26", says = "Throws IllegalArgumentException if what is out of range")
    static void noticeRefusesMinus1And3() {
        Ticksilo x = counting(1, 0, 0);
        x.pass(10);
        argument(() -> x.notice(0, -1));
        argument(() -> x.notice(0, 3));
        due(x.notice(0, 2), 10);
    }
}
