import java.math.BigInteger;
import java.util.ArrayList;
import java.util.HashMap;
import java.util.HashSet;
import java.util.List;
import java.util.Map;
import java.util.Set;
import java.util.TreeMap;
import java.util.TreeSet;

/**
 * A second program for the same document, as slow and plain as can be: it keeps what happened and reckons each answer
 * anew from that, with integers without bounds. ModelTest compares Ticksilo with it.
 */
final class Model {
    /** A sample written, or an erasing. */
    private static final class Event {
        boolean erasing;
        String series;
        int time;
        int value;
        Set<String> erased;
        int from;
        int to;
    }

    private static final class Vector {
        boolean number;
        TreeMap<String, BigInteger> values = new TreeMap<>();
    }

    private static final class Fails extends Exception {
        private static final long serialVersionUID = 1;
    }

    private static final class Rule {
        List<int[]> words;
        Integer two;
        int wait;
        int keep;
        int inhibitor = -1;
        TreeMap<String, long[]> entries = new TreeMap<>(); // state, since, told, last
    }

    private static final BigInteger THOUSAND = BigInteger.valueOf(1000);
    private static final BigInteger BOUND = BigInteger.TEN.pow(14);

    private int now = 0;
    private int retention = 1000;
    private boolean down = false;
    private final List<String> series = new ArrayList<>();
    private List<Event> base = new ArrayList<>();
    private final List<Event> log = new ArrayList<>();
    private final Set<Event> copy = new HashSet<>();
    private final Map<String, Integer> bits = new HashMap<>();
    private final int[][] selectors = {{127, 127, 127}, {127, 127, 127}, {127, 127, 127}, {127, 127, 127}};
    private List<int[]> draft = new ArrayList<>();
    private final List<Map.Entry<String, BigInteger>> asked = new ArrayList<>();
    private final List<Rule> rules = new ArrayList<>();
    private final List<int[]> silences = new ArrayList<>();
    private final List<int[]> notices = new ArrayList<>();

    private static void arguments(boolean fine) {
        if (!fine) throw new IllegalArgumentException();
    }

    private static void state(boolean fine) {
        if (!fine) throw new IllegalStateException();
    }

    private static void index(boolean fine) {
        if (!fine) throw new IndexOutOfBoundsException();
    }

    private static boolean in(int x, int a, int b) {
        return a <= x && x <= b;
    }

    /** All samples that are seen, as they were written. */
    private List<Event> seen() {
        List<Event> all = new ArrayList<>(base);
        for (Event e : log) {
            if (e.erasing) {
                all.removeIf(s -> e.erased.contains(s.series) && s.time >= e.from && s.time <= e.to);
            } else {
                all.add(e);
            }
        }
        return all;
    }

    private List<Event> seenOf(String labels) {
        List<Event> all = seen();
        all.removeIf(s -> !s.series.equals(labels));
        all.sort((a, b) -> Integer.compare(a.time, b.time));
        return all;
    }

    private static boolean selected(int[] sets, String labels) {
        for (int i = 0; i < 3; i++) {
            if ((sets[i] & 1 << labels.charAt(i) - '0') == 0) return false;
        }
        return true;
    }

    int write(int zero, int one, int two, int time, int value) {
        arguments(in(zero, 0, 6) && in(one, 0, 6) && in(two, 0, 6));
        arguments(in(time, 0, now));
        arguments(value == Integer.MIN_VALUE || in(value, -1000000, 1000000));
        return put("" + zero + one + two, time, value);
    }

    private int put(String labels, int time, int value) {
        if (!series.contains(labels) && series.size() == 12) return 1;
        List<Event> mine = seenOf(labels);
        for (Event e : mine) {
            if (e.time == time) return e.value == value ? 2 : 3;
        }
        if (!mine.isEmpty() && mine.get(mine.size() - 1).time - time > 100) return 4;
        if (seen().stream().filter(e -> e.series.charAt(0) == labels.charAt(0)).count() >= 60) return 5;
        if (!series.contains(labels)) series.add(labels);
        Event e = new Event();
        e.series = labels;
        e.time = time;
        e.value = value;
        log.add(e);
        if (!down) copy.add(e);
        return 0;
    }

    int series() {
        return series.size();
    }

    int labels(int number) {
        index(in(number, 0, series.size() - 1));
        return Integer.parseInt(series.get(number));
    }

    int samples(int number) {
        index(in(number, 0, series.size() - 1));
        return seenOf(series.get(number)).size();
    }

    int erase(int selector, int from, int to) {
        index(in(selector, 0, 3));
        arguments(in(from, 0, 100000) && in(to, from, 100000));
        int before = seen().size();
        Event e = new Event();
        e.erasing = true;
        e.erased = new HashSet<>();
        for (String s : series) {
            if (selected(selectors[selector], s)) e.erased.add(s);
        }
        e.from = from;
        e.to = to;
        log.add(e);
        return before - seen().size();
    }

    int pass(int times) {
        arguments(in(times, 1, 100));
        state(now + times <= 100000);
        for (int i = 0; i < times; i++) {
            now++;
            if (now % 10 == 0) tick();
        }
        return now;
    }

    int retain(int times) {
        arguments(in(times, 1, 100000));
        int was = retention;
        retention = times;
        return was;
    }

    int flush() {
        base = seen();
        base.removeIf(e -> now - e.time > retention);
        log.clear();
        bits.clear();
        for (String s : series) {
            Map<Integer, List<Event>> blocks = new TreeMap<>();
            for (Event e : seenOf(s)) blocks.computeIfAbsent(e.time / 100, k -> new ArrayList<>()).add(e);
            blocks.forEach((h, all) -> bits.put(s + "/" + h, packed(all)));
        }
        return bits.size();
    }

    private static int packed(List<Event> all) {
        int sum = 64;
        for (int i = 1; i < all.size(); i++) {
            int distance = all.get(i).time - all.get(i - 1).time;
            int ahead = i == 1 ? 0 : all.get(i - 1).time - all.get(i - 2).time;
            int d = distance - ahead;
            sum += d == 0 ? 1 : d >= -63 && d <= 64 ? 9 : d >= -255 && d <= 256 ? 12 : 36;
            String unlike = Integer.toBinaryString(all.get(i).value ^ all.get(i - 1).value);
            sum += unlike.equals("0") ? 1 : 12 + unlike.lastIndexOf('1') - unlike.indexOf('1') + 1;
        }
        return sum;
    }

    int log() {
        return log.size();
    }

    int crash(int records) {
        arguments(in(records, 0, 1000));
        for (int i = 0; i < records && !log.isEmpty(); i++) log.remove(log.size() - 1);
        return log.size();
    }

    int bits(int number, int hundred) {
        index(in(number, 0, series.size() - 1));
        Integer found = bits.get(series.get(number) + "/" + hundred);
        index(found != null);
        return found;
    }

    int select(int selector, int zero, int one, int two) {
        index(in(selector, 0, 3));
        arguments(in(zero, 0, 127) && in(one, 0, 127) && in(two, 0, 127));
        selectors[selector] = new int[] {zero, one, two};
        return (int) series.stream().filter(s -> selected(selectors[selector], s)).count();
    }

    private int left() {
        int pile = 0;
        for (int[] w : draft) pile += w[0] <= 7 ? 1 : w[0] >= 10 && w[0] <= 14 ? -1 : 0;
        return pile;
    }

    int word(int what, int one, int two) {
        arguments(in(what, 0, 15));
        if (what == 0) arguments(in(one, -1000000, 1000000));
        if (what == 1) arguments(in(one, 0, 3) && in(two, 0, 1000));
        if (what >= 2 && what <= 7) arguments(in(one, 0, 3) && in(two, 1, 1000));
        if (what >= 8 && what <= 14) arguments(in(one, 0, 7));
        if (what == 15) arguments(in(one, 0, 1000));
        state(draft.size() < 10);
        if (what == 8 || what == 9 || what == 15) state(left() >= 1);
        if (what >= 10 && what <= 14) state(left() >= 2);
        int[] sets = what >= 1 && what <= 7 ? selectors[one] : new int[3];
        draft.add(new int[] {what, one, two, sets[0], sets[1], sets[2]});
        return draft.size();
    }

    int clear() {
        int had = draft.size();
        draft = new ArrayList<>();
        return had;
    }

    int ask(int time) {
        arguments(in(time, 0, 100000));
        state(left() == 1);
        asked.clear();
        try {
            asked.addAll(reckon(draft, time).values.entrySet());
            return asked.size();
        } catch (Fails e) {
            return -1;
        }
    }

    long value(int entry) {
        index(in(entry, 0, asked.size() - 1));
        return asked.get(entry).getValue().longValueExact();
    }

    int labelsOf(int entry) {
        index(in(entry, 0, asked.size() - 1));
        return Integer.parseInt(asked.get(entry).getKey());
    }

    private static BigInteger bound(BigInteger x) {
        return x.min(BOUND).max(BOUND.negate());
    }

    private static BigInteger big(long x) {
        return BigInteger.valueOf(x);
    }

    private static Vector number(BigInteger x) {
        Vector v = new Vector();
        v.number = true;
        v.values.put("666", bound(x));
        return v;
    }

    private Vector reckon(List<int[]> words, int time) throws Fails {
        List<Vector> pile = new ArrayList<>();
        for (int[] w : words) {
            if (w[0] == 0) {
                pile.add(number(big(w[1])));
            } else if (w[0] <= 7) {
                pile.add(read(w, time));
            } else {
                Vector upper = pile.remove(pile.size() - 1);
                if (w[0] <= 9) pile.add(fold(w, upper));
                else if (w[0] == 15) pile.add(quantile(w[1], upper));
                else pile.add(join(w, pile.remove(pile.size() - 1), upper));
            }
        }
        return pile.get(0);
    }

    private Vector read(int[] w, int time) {
        Vector v = new Vector();
        for (String s : series) {
            if (!selected(new int[] {w[3], w[4], w[5]}, s)) continue;
            List<Event> all = seenOf(s);
            if (w[0] == 1) {
                all.removeIf(e -> e.time > time - w[2]);
                if (all.isEmpty()) continue;
                Event e = all.get(all.size() - 1);
                if (time - w[2] - e.time <= 50 && e.value != Integer.MIN_VALUE) v.values.put(s, big(e.value).multiply(THOUSAND));
                continue;
            }
            all.removeIf(e -> e.time > time || e.time <= time - w[2] || e.value == Integer.MIN_VALUE);
            if (all.size() < (w[0] == 7 ? 2 : 1)) continue;
            v.values.put(s, bound(window(w[0], all, time - w[2], time)));
        }
        return v;
    }

    private static BigInteger window(int what, List<Event> all, int begin, int end) {
        switch (what) {
            case 2: return big(1000L * all.size());
            case 3: return big(1000L * all.stream().mapToLong(e -> e.value).sum());
            case 4: return big(1000L * all.stream().mapToLong(e -> e.value).min().getAsLong());
            case 5: return big(1000L * all.stream().mapToLong(e -> e.value).max().getAsLong());
            case 6: {
                BigInteger s = null;
                for (Event e : all) {
                    BigInteger x = big(1000L * e.value);
                    s = s == null ? x : s.add(x.subtract(s).divide(big(2)));
                }
                return s;
            }
            default: {
                long first = all.get(0).time;
                long last = all.get(all.size() - 1).time;
                long increase = 0;
                for (int i = 1; i < all.size(); i++) {
                    long a = all.get(i - 1).value;
                    long b = all.get(i).value;
                    increase += b >= a ? b - a : b > 0 ? b : 0;
                }
                long d = last - first;
                long reach = d / 2 / (all.size() - 1);
                long e = d + Math.min(reach, first - begin) + Math.min(reach, end - last);
                return THOUSAND.multiply(big(increase)).multiply(big(e)).divide(big(d).multiply(big(end - begin)));
            }
        }
    }

    private static String only(String labels, int set) {
        StringBuilder b = new StringBuilder();
        for (int i = 0; i < 3; i++) b.append((set & 1 << i) != 0 ? labels.charAt(i) : '6');
        return b.toString();
    }

    private static Vector fold(int[] w, Vector from) {
        if (from.number) return from;
        Vector v = new Vector();
        from.values.forEach((k, x) -> v.values.merge(only(k, w[1]), x, w[0] == 8 ? BigInteger::add : BigInteger::max));
        v.values.replaceAll((k, x) -> bound(x));
        return v;
    }

    private static Vector quantile(int q, Vector from) {
        Vector v = new Vector();
        if (from.number) return v;
        Set<String> groups = new TreeSet<>();
        for (String k : from.values.keySet()) groups.add(k.substring(0, 2));
        int[] bounds = {1, 2, 5, 10, 20};
        for (String g : groups) {
            List<Integer> twos = new ArrayList<>();
            List<BigInteger> values = new ArrayList<>();
            for (int two = 0; two <= 5; two++) {
                if (from.values.containsKey(g + two)) {
                    twos.add(two);
                    values.add(from.values.get(g + two));
                }
            }
            if (values.isEmpty()) continue;
            BigInteger greatest = values.stream().max(BigInteger::compareTo).get();
            if (greatest.signum() <= 0) continue;
            BigInteger rank = greatest.multiply(big(q)).divide(THOUSAND);
            int i = 0;
            while (values.get(i).compareTo(rank) < 0) i++;
            BigInteger lower = i == 0 ? BigInteger.ZERO : big(bounds[twos.get(i - 1)]).multiply(THOUSAND);
            BigInteger ahead = i == 0 ? BigInteger.ZERO : values.get(i - 1);
            BigInteger answer = lower;
            if (twos.get(i) != 5 && !values.get(i).equals(ahead)) {
                BigInteger way = big(bounds[twos.get(i)]).multiply(THOUSAND).subtract(lower);
                answer = lower.add(way.multiply(rank.subtract(ahead)).divide(values.get(i).subtract(ahead)));
            }
            v.values.put(g + "6", answer);
        }
        return v;
    }

    private static BigInteger combine(int what, BigInteger a, BigInteger b) {
        switch (what) {
            case 10: return bound(a.add(b));
            case 11: return bound(a.subtract(b));
            case 12: return bound(a.multiply(b).divide(THOUSAND));
            default: return bound(a.multiply(THOUSAND).divide(b));
        }
    }

    private static Vector join(int[] w, Vector lower, Vector upper) throws Fails {
        int what = w[0];
        if (lower.number && upper.number) {
            BigInteger a = lower.values.get("666");
            BigInteger b = upper.values.get("666");
            if (what == 14) return number(a.compareTo(b) > 0 ? THOUSAND : BigInteger.ZERO);
            if (what == 13 && b.signum() == 0) throw new Fails();
            return number(combine(what, a, b));
        }
        Vector v = new Vector();
        for (String k : (lower.number ? upper : lower).values.keySet()) {
            BigInteger a = lower.number ? lower.values.get("666") : lower.values.get(k);
            BigInteger b;
            if (lower.number) {
                b = upper.values.get(k);
            } else if (upper.number) {
                b = upper.values.get("666");
            } else {
                List<BigInteger> same = new ArrayList<>();
                upper.values.forEach((u, x) -> {
                    if (only(u, w[1]).equals(only(k, w[1]))) same.add(x);
                });
                if (same.size() > 1) throw new Fails();
                if (same.isEmpty()) continue;
                b = same.get(0);
            }
            if (what == 14) {
                if (a.compareTo(b) > 0) v.values.put(k, lower.number ? b : a);
            } else if (what != 13 || b.signum() != 0) {
                v.values.put(k, combine(what, a, b));
            }
        }
        return v;
    }

    int record(int two) {
        arguments(in(two, 0, 5));
        state(left() == 1 && rules.size() < 8);
        Rule r = new Rule();
        r.words = draft;
        r.two = two;
        rules.add(r);
        draft = new ArrayList<>();
        return rules.size();
    }

    int alert(int wait, int keep) {
        arguments(in(wait, 0, 1000) && in(keep, 0, 1000));
        state(left() == 1 && rules.size() < 8);
        Rule r = new Rule();
        r.words = draft;
        r.wait = wait;
        r.keep = keep;
        rules.add(r);
        draft = new ArrayList<>();
        return rules.size() - 1;
    }

    private boolean isAlert(int number) {
        return in(number, 0, rules.size() - 1) && rules.get(number).two == null;
    }

    int inhibit(int alert, int other) {
        index(isAlert(alert));
        index(other == -1 || isAlert(other) && other < alert);
        int was = rules.get(alert).inhibitor;
        rules.get(alert).inhibitor = other;
        return was;
    }

    int silence(int selector, int until) {
        index(in(selector, 0, 3));
        arguments(in(until, 0, 100000));
        state(silences.size() < 10);
        int[] s = selectors[selector];
        silences.add(new int[] {s[0], s[1], s[2], until});
        return silences.size();
    }

    int entries(int alert, boolean firing) {
        index(isAlert(alert));
        return (int) rules.get(alert).entries.values().stream().filter(e -> !firing || e[0] == 1).count();
    }

    int entry(int alert, int entry, int what) {
        index(isAlert(alert));
        index(in(entry, 0, rules.get(alert).entries.size() - 1));
        arguments(in(what, 0, 3));
        Map.Entry<String, long[]> e = new ArrayList<>(rules.get(alert).entries.entrySet()).get(entry);
        return what == 0 ? Integer.parseInt(e.getKey()) : (int) e.getValue()[what - 1];
    }

    int notices() {
        return notices.size();
    }

    int notice(int notice, int what) {
        index(in(notice, 0, notices.size() - 1) && notice < 60);
        arguments(in(what, 0, 2));
        return notices.get(notice)[what];
    }

    private void tick() {
        for (int i = 0; i < rules.size(); i++) {
            Rule r = rules.get(i);
            Vector v = null;
            try {
                v = reckon(r.words, now);
            } catch (Fails e) {
                v = new Vector();
            }
            if (r.two != null) {
                v.values.forEach((k, x) -> {
                    BigInteger whole = x.divide(THOUSAND).min(big(1000000)).max(big(-1000000));
                    put(k.substring(0, 2) + r.two, now, whole.intValueExact());
                });
            } else {
                look(r, i, v);
            }
        }
    }

    private void look(Rule r, int number, Vector v) {
        Set<String> there = new TreeSet<>(v.values.keySet());
        if (v.number && v.values.get("666").signum() <= 0) there.clear();
        for (String k : new ArrayList<>(r.entries.keySet())) {
            long[] e = r.entries.get(k);
            if (there.contains(k)) continue;
            if (e[0] == 0 || now - e[3] > r.keep) r.entries.remove(k);
        }
        for (String k : there) {
            long[] e = r.entries.computeIfAbsent(k, x -> new long[] {0, now, 0, now});
            e[3] = now;
            if (e[0] == 0 && now - e[1] >= r.wait) {
                e[0] = 1;
                e[1] = now;
                e[2] = 0;
            }
        }
        r.entries.forEach((k, e) -> {
            if (e[0] == 0 || e[2] == 1) return;
            if (r.inhibitor >= 0) {
                for (Map.Entry<String, long[]> o : rules.get(r.inhibitor).entries.entrySet()) {
                    if (o.getValue()[0] == 1 && o.getKey().charAt(0) == k.charAt(0)) return;
                }
            }
            for (int[] s : silences) {
                if (now <= s[3] && selected(s, k)) return;
            }
            e[2] = 1;
            notices.add(new int[] {number, Integer.parseInt(k), now});
        });
    }

    int thinned(int number, int level, int span, int what) {
        index(in(number, 0, series.size() - 1));
        arguments((level == 10 || level == 100) && in(span, 0, 10000) && in(what, 0, 3));
        List<Event> all = seenOf(series.get(number));
        all.removeIf(e -> e.value == Integer.MIN_VALUE || e.time / level != span);
        if (all.isEmpty()) return 0;
        if (what == 0) return all.size();
        return window(what + 2, all, 0, 0).divide(THOUSAND).intValueExact();
    }

    boolean suits(int level, int time, int window) {
        arguments((level == 10 || level == 100) && in(time, 0, 100000) && in(window, 1, 1000));
        for (int t = time - window + 1; t <= time; t++) {
            int begin = Math.floorDiv(t, level) * level;
            if (begin <= time - window || begin + level - 1 > time) return false;
        }
        return true;
    }

    boolean down(boolean is) {
        boolean was = down;
        down = is;
        return was;
    }

    int behind() {
        List<Event> all = seen();
        all.removeIf(copy::contains);
        return all.size();
    }

    int mend(int many) {
        arguments(in(many, 1, 1000));
        List<Event> all = seen();
        all.removeIf(copy::contains);
        List<Event> first = all.subList(0, Math.min(many, all.size()));
        copy.addAll(first);
        return first.size();
    }
}
