import java.math.BigInteger;
import java.util.ArrayList;
import java.util.Comparator;
import java.util.List;
import java.util.Map;
import java.util.TreeMap;
import java.util.TreeSet;
import java.util.regex.Matcher;
import java.util.regex.Pattern;

/** The document written a second time, slowly and in another way, so that slips of one writing show. */
final class Model {
    private static final int UNKNOWN = -1, OUTSIDE = -2, STATE = -3, FULL = -4, NO = -5, NONE = -6;
    private static final Pattern ACT = Pattern.compile("([A-H]*)\\|([A-H]+);|[.*]|\\^([A-H])");
    private static final Pattern ACTS = Pattern.compile("(?:[A-H]*\\|[A-H]+;|[.*]|\\^[A-H])*");

    private static final class Body {
        int sworn, weight, drift;
        boolean cold;
        Integer spouse;

        Body copy() {
            Body b = new Body();
            b.sworn = sworn;
            b.weight = weight;
            b.drift = drift;
            b.cold = cold;
            b.spouse = spouse;
            return b;
        }

        int pounds() {
            return cold ? weight - weight / 10 : weight;
        }
    }

    private record Sight(TreeSet<Integer> first, TreeSet<Integer> second, int how) { }

    private record World(int person, int d) { }

    private record Seats(int first, int second, int makes) {
        int sit() {
            return Integer.bitCount(first) + Integer.bitCount(second);
        }
    }

    private static final class Place {
        final TreeMap<Integer, Body> bodies = new TreeMap<>();
        final List<Sight> sights = new ArrayList<>();
        int limit = 5, day = 0;

        Place copy() {
            Place p = new Place();
            bodies.forEach((k, b) -> p.bodies.put(k, b.copy()));
            p.sights.addAll(sights);
            p.limit = limit;
            p.day = day;
            return p;
        }

        void day() {
            day++;
            for (Body b : bodies.values()) {
                b.weight += b.drift;
                b.weight = b.weight < 1 ? 1 : b.weight > 400 ? 400 : b.weight;
            }
        }

        void feast() {
            for (Body b : bodies.values()) {
                b.weight = b.weight + 5 > 400 ? 400 : b.weight + 5;
            }
        }
    }

    private record Judged(int act, int why, int sales, int sold, int pounds, int off, int acts, Place after) { }

    private Place now = new Place();
    private final Place[] images = new Place[2];
    private String pad = "";

    private static boolean in(long x, long low, long high) {
        return x >= low && x <= high;
    }

    private static TreeSet<Integer> members(int set) {
        TreeSet<Integer> s = new TreeSet<>();
        for (int p = 0; p < 32; p++) {
            if ((set >>> p) % 2 != 0) {
                s.add(p);
            }
        }
        return s;
    }

    private static int bits(Iterable<Integer> set) {
        int bits = 0;
        for (int p : set) {
            bits += 1 << p;
        }
        return bits;
    }

    int person(int person, int sworn, int weight, int drift) {
        if (!in(person, 0, 7)) {
            return UNKNOWN;
        }
        if (!in(sworn, 1, 200) || !in(weight, 1, 400) || !in(drift, -9, 9)) {
            return OUTSIDE;
        }
        Body b = new Body();
        b.sworn = sworn;
        b.weight = weight;
        b.drift = drift;
        Body was = now.bodies.put(person, b);
        b.spouse = was == null ? null : was.spouse;
        return now.bodies.size();
    }

    int leave(int person) {
        Body gone = now.bodies.remove(person);
        if (gone == null) {
            return UNKNOWN;
        }
        if (gone.spouse != null) {
            now.bodies.get(gone.spouse).spouse = null;
        }
        return now.bodies.size();
    }

    int marry(int person, int other, boolean is) {
        Body a = now.bodies.get(person);
        Body b = now.bodies.get(other);
        if (a == null || b == null || a == b) {
            return UNKNOWN;
        }
        boolean are = a.spouse != null && a.spouse == other;
        if (is) {
            if (!are && (a.spouse != null || b.spouse != null)) {
                return STATE;
            }
            a.spouse = other;
            b.spouse = person;
        } else {
            if (!are) {
                return STATE;
            }
            a.spouse = null;
            b.spouse = null;
        }
        return (int) now.bodies.entrySet().stream().filter(e -> e.getValue().spouse != null && e.getValue().spouse > e.getKey()).count();
    }

    int limit(int v) {
        if (!in(v, 0, 99)) {
            return OUTSIDE;
        }
        int was = now.limit;
        now.limit = v;
        return was;
    }

    int say(int sign) {
        if (!in(sign, 33, 126)) {
            return OUTSIDE;
        }
        if (pad.length() == 60) {
            return FULL;
        }
        pad += (char) sign;
        return pad.length();
    }

    int wipe() {
        int were = pad.length();
        pad = "";
        return were;
    }

    int fault() {
        for (int n = 1; n <= pad.length(); n++) {
            Matcher m = ACTS.matcher(pad.substring(0, n));
            if (!m.matches() && !m.hitEnd()) {
                return n - 1;
            }
        }
        return ACTS.matcher(pad).matches() ? NONE : pad.length();
    }

    private Judged held() {
        Place p = now.copy();
        Matcher m = ACT.matcher(pad);
        int act = 0, sales = 0, sold = 0, pounds = 0, off = NONE;
        for (; m.find(); act++) {
            if (m.group().equals(".")) {
                p.day();
            } else if (m.group().equals("*")) {
                p.feast();
            } else if (m.group(3) != null) {
                Body b = p.bodies.get(m.group(3).charAt(0) - 'A');
                if (b == null) {
                    return new Judged(act, 1, 0, 0, 0, 0, 0, null);
                }
                b.cold = !b.cold;
            } else {
                int why = why(p, m.group(1), m.group(2));
                if (why != 0) {
                    return new Judged(act, why, 0, 0, 0, 0, 0, null);
                }
                int as = 0, goods = 0;
                for (char c : m.group(1).toCharArray()) {
                    as -= p.bodies.get(c - 'A').sworn;
                    goods -= p.bodies.get(c - 'A').pounds();
                }
                for (char c : m.group(2).toCharArray()) {
                    as += p.bodies.get(c - 'A').sworn;
                    goods += p.bodies.get(c - 'A').pounds();
                }
                goods = goods < 0 ? 0 : goods;
                sales++;
                sold += as;
                pounds += goods;
                if (off == NONE && (goods - as > p.limit || as - goods > p.limit)) {
                    off = act;
                }
            }
        }
        return new Judged(NONE, NONE, sales, sold, pounds, off, act, p);
    }

    private static int why(Place p, String by, String across) {
        String all = by + across;
        if (all.chars().anyMatch(c -> !p.bodies.containsKey(c - 'A'))) {
            return 1;
        }
        if (all.chars().distinct().count() < all.length()) {
            return 2;
        }
        for (String pan : List.of(by, across)) {
            for (char c : pan.toCharArray()) {
                Integer spouse = p.bodies.get(c - 'A').spouse;
                if (spouse != null && pan.indexOf('A' + spouse) < 0) {
                    return 3;
                }
            }
        }
        int as = across.chars().map(c -> p.bodies.get(c - 'A').sworn).sum() - by.chars().map(c -> p.bodies.get(c - 'A').sworn).sum();
        return as <= 0 ? 4 : 0;
    }

    int judge(int what) {
        if (!in(what, 0, 5)) {
            return OUTSIDE;
        }
        if (fault() != NONE) {
            return NO;
        }
        Judged j = held();
        if (j.act != NONE && what >= 2) {
            return STATE;
        }
        return new int[] {j.act, j.why, j.sales, j.sold, j.pounds, j.off}[what];
    }

    int behind(int person, int what) {
        if (!now.bodies.containsKey(person)) {
            return UNKNOWN;
        }
        if (!in(what, 0, 2)) {
            return OUTSIDE;
        }
        int refused = judge(2);
        if (refused < 0) {
            return refused;
        }
        Place after = held().after;
        Body b = after.bodies.get(person);
        return new int[] {b.pounds(), b.weight, after.day}[what];
    }

    int done() {
        int refused = judge(2);
        if (refused < 0) {
            return refused;
        }
        Judged j = held();
        now = j.after;
        pad = "";
        return j.acts;
    }

    int weighs(int person) {
        return now.bodies.containsKey(person) ? now.bodies.get(person).pounds() : UNKNOWN;
    }

    int off(int person) {
        return now.bodies.containsKey(person) ? 1000 + weighs(person) - now.bodies.get(person).sworn : UNKNOWN;
    }

    int out(int person) {
        if (!now.bodies.containsKey(person)) {
            return UNKNOWN;
        }
        Place p = now.copy();
        for (int day = 0; day <= 99; day++, p.day()) {
            Body b = p.bodies.get(person);
            if (b.pounds() > b.sworn + p.limit || b.pounds() < b.sworn - p.limit) {
                return day;
            }
        }
        return NONE;
    }

    int even(int person, int other) {
        if (person == other || !now.bodies.containsKey(person) || !now.bodies.containsKey(other)) {
            return UNKNOWN;
        }
        Place p = now.copy();
        for (int day = 0; day <= 99; day++, p.day()) {
            if (p.bodies.get(person).pounds() == p.bodies.get(other).pounds()) {
                return day;
            }
        }
        return NONE;
    }

    /** All seats: each one or each couple by the goods, across or on no pan. */
    private List<Seats> allSeats(boolean sworn) {
        List<Seats> all = new ArrayList<>();
        all.add(new Seats(0, 0, 0));
        for (Map.Entry<Integer, Body> e : now.bodies.entrySet()) {
            Body b = e.getValue();
            if (b.spouse != null && b.spouse < e.getKey()) {
                continue;
            }
            int bits = 1 << e.getKey();
            int value = sworn ? b.sworn : b.pounds();
            if (b.spouse != null) {
                Body other = now.bodies.get(b.spouse);
                bits += 1 << b.spouse;
                value += sworn ? other.sworn : other.pounds();
            }
            List<Seats> more = new ArrayList<>();
            for (Seats s : all) {
                more.add(s);
                more.add(new Seats(s.first + bits, s.second, s.makes + value));
                more.add(new Seats(s.first, s.second + bits, s.makes - value));
            }
            all = more;
        }
        return all;
    }

    int make(int v, boolean sworn, int what) {
        if (!in(v, 1, 999) || !in(what, 0, 2)) {
            return OUTSIDE;
        }
        return allSeats(sworn).stream().filter(s -> s.makes == v)
            .min(Comparator.comparing(Seats::sit).thenComparing(Seats::first).thenComparing(Seats::second))
            .map(s -> what == 0 ? s.sit() : what == 1 ? s.first : s.second).orElse(NONE);
    }

    int near(int v, boolean sworn) {
        if (!in(v, 1, 999)) {
            return OUTSIDE;
        }
        return allSeats(sworn).stream().mapToInt(s -> Math.abs(v - s.makes)).min().getAsInt();
    }

    int gap(boolean sworn) {
        TreeSet<Integer> made = new TreeSet<>();
        allSeats(sworn).forEach(s -> made.add(s.makes));
        int v = 1;
        while (made.contains(v)) {
            v++;
        }
        return v;
    }

    int assize(int i) {
        if (i == -1) {
            return now.bodies.size();
        }
        List<Integer> order = new ArrayList<>(now.bodies.keySet());
        order.sort((a, b) -> weighs(b) - weighs(a));
        return in(i, 0, order.size() - 1) ? order.get(i) : NONE;
    }

    int just() {
        TreeMap<Integer, Integer> alike = new TreeMap<>();
        now.bodies.values().forEach(b -> alike.merge(b.pounds(), 1, Integer::sum));
        return alike.values().stream().mapToInt(n -> n).max().orElse(0);
    }

    int price(int g, int set, int what) {
        TreeSet<Integer> with = members(set);
        if (!now.bodies.keySet().containsAll(with)) {
            return UNKNOWN;
        }
        if (!in(g, 1, 999) || !in(what, 0, 1)) {
            return OUTSIDE;
        }
        int load = g, less = 0;
        for (int p : with) {
            Body b = now.bodies.get(p);
            if (b.spouse != null && !with.contains(b.spouse)) {
                return STATE;
            }
            load += b.pounds();
            less += b.sworn;
        }
        int most = 0, who = NONE;
        for (int across = 1; across < 256; across++) {
            TreeSet<Integer> they = members(across);
            if (!now.bodies.keySet().containsAll(they) || (across & set) != 0) {
                continue;
            }
            int weigh = 0, as = -less;
            boolean whole = true;
            for (int p : they) {
                Body b = now.bodies.get(p);
                whole &= b.spouse == null || they.contains(b.spouse);
                weigh += b.pounds();
                as += b.sworn;
            }
            if (whole && weigh <= load && as > most) {
                most = as;
                who = across;
            }
        }
        return most == 0 ? NONE : what == 0 ? most : who;
    }

    private boolean weighable(int first, int second) {
        TreeSet<Integer> one = members(first), two = members(second), both = new TreeSet<>(one);
        both.retainAll(two);
        return !one.isEmpty() && !two.isEmpty() && both.isEmpty()
            && now.bodies.keySet().containsAll(one) && now.bodies.keySet().containsAll(two);
    }

    int seen(int first, int second, int how) {
        if (!weighable(first, second)) {
            return UNKNOWN;
        }
        if (!in(how, 0, 2)) {
            return OUTSIDE;
        }
        if (now.sights.size() == 8) {
            return FULL;
        }
        now.sights.add(new Sight(members(first), members(second), how));
        return now.sights.size();
    }

    int forget() {
        int were = now.sights.size();
        now.sights.clear();
        return were;
    }

    private int inWorld(World w, int p) {
        Body b = now.bodies.get(p);
        return b == null ? 0 : p == w.person ? b.sworn + w.d : b.sworn;
    }

    private boolean so(World w, Sight s) {
        int one = 0, two = 0;
        for (int p : s.first) {
            one += inWorld(w, p);
        }
        for (int p : s.second) {
            two += inWorld(w, p);
        }
        return Integer.signum(one - two) + 1 == s.how;
    }

    private List<World> worlds() {
        List<World> all = new ArrayList<>();
        all.add(new World(-1, 0));
        now.bodies.forEach((p, b) -> {
            for (int d = -9; d <= 9; d++) {
                if (d != 0 && b.sworn + d >= 1) {
                    all.add(new World(p, d));
                }
            }
        });
        all.removeIf(w -> now.sights.stream().anyMatch(s -> !so(w, s)));
        return all;
    }

    int airs(int what) {
        if (!in(what, 0, 1)) {
            return OUTSIDE;
        }
        TreeSet<Integer> who = new TreeSet<>();
        worlds().forEach(w -> who.add(w.person));
        who.remove(-1);
        return what == 0 ? worlds().size() : bits(who);
    }

    int air(int person) {
        if (!now.bodies.containsKey(person)) {
            return UNKNOWN;
        }
        return worlds().stream().filter(w -> w.person == person).mapToInt(w -> w.d + 100).min().orElse(NONE);
    }

    int cross(int what) {
        if (!in(what, 0, 1)) {
            return OUTSIDE;
        }
        List<World> fit = worlds();
        int best = NONE, fewest = Integer.MAX_VALUE;
        for (int p : now.bodies.keySet()) {
            for (int q : now.bodies.tailMap(p, false).keySet()) {
                long most = 0;
                for (int how = 0; how <= 2; how++) {
                    Sight next = new Sight(members(1 << p), members(1 << q), how);
                    most = Math.max(most, fit.stream().filter(w -> so(w, next)).count());
                }
                if (most < fewest) {
                    fewest = (int) most;
                    best = 10 * p + q;
                }
            }
        }
        return best == NONE || fit.isEmpty() ? NONE : what == 0 ? best : fewest;
    }

    /** Counted in units of a tenth for each who sits. */
    private BigInteger ways(List<Integer> sides, int from, int lead, int t, int k) {
        if (from == sides.size()) {
            return lead > 0 ? BigInteger.ONE : BigInteger.ZERO;
        }
        BigInteger more = ways(sides, from + 1, lead + k * sides.get(from), t, k).multiply(BigInteger.valueOf(t));
        BigInteger just = ways(sides, from + 1, lead, t, k).multiply(BigInteger.valueOf(10 - t));
        return more.add(just);
    }

    long chance(int first, int second, int t, int k, int what, int part) {
        if (!weighable(first, second)) {
            return -1000000000000000000L - 1;
        }
        if (!in(t, 0, 10) || !in(k, 1, 50) || !in(what, 0, 1) || !in(part, 0, 1)) {
            return -1000000000000000000L - 2;
        }
        int lead = 0, mean = 0;
        List<Integer> sides = new ArrayList<>();
        for (int p : members(first)) {
            lead += now.bodies.get(p).weight;
            mean += 10 * now.bodies.get(p).weight + t * k;
            sides.add(1);
        }
        for (int p : members(second)) {
            lead -= now.bodies.get(p).weight;
            mean -= 10 * now.bodies.get(p).weight + t * k;
            sides.add(-1);
        }
        BigInteger upper = what == 0 ? ways(sides, 0, lead, t, k) : BigInteger.valueOf(mean);
        BigInteger lower = what == 0 ? BigInteger.TEN.pow(sides.size()) : BigInteger.TEN;
        BigInteger shared = upper.gcd(lower);
        return (part == 0 ? upper : lower).divide(shared).longValue();
    }

    int year(int seed, int m, int what) {
        if (!in(seed, 0, 9999) || !in(m, 1, 99) || !in(what, 0, 2)) {
            return OUTSIDE;
        }
        Place p = now.copy();
        long x = seed;
        int[] sums = new int[3];
        for (int i = 0; i < m; i++) {
            x = (75 * x + 74) % 65537;
            if (x / 8 % 2 != 0) {
                p.day();
            }
            Body b = p.bodies.get((int) (x % 8));
            if (b == null) {
                continue;
            }
            int as = b.sworn, goods = b.pounds();
            if (b.spouse != null) {
                as += p.bodies.get(b.spouse).sworn;
                goods += p.bodies.get(b.spouse).pounds();
            }
            sums[0] += as;
            sums[1] += goods;
            sums[2] += as - goods > p.limit || goods - as > p.limit ? 1 : 0;
        }
        return sums[what];
    }

    int image(int k) {
        if (!in(k, 0, 1)) {
            return OUTSIDE;
        }
        images[k] = now.copy();
        return 1;
    }

    int restore(int k) {
        if (!in(k, 0, 1)) {
            return OUTSIDE;
        }
        if (images[k] == null) {
            return STATE;
        }
        now = images[k].copy();
        return 1;
    }

    int told(int what) {
        TreeSet<Integer> colds = new TreeSet<>(now.bodies.keySet());
        colds.removeIf(p -> !now.bodies.get(p).cold);
        if (in(what, 0, 5)) {
            return new int[] {pad.length(), bits(now.bodies.keySet()), bits(colds), now.limit, now.day, now.sights.size()}[what];
        }
        for (Map.Entry<Integer, Body> e : now.bodies.entrySet()) {
            Body b = e.getValue();
            int[] tell = {b.sworn, b.weight, b.drift + 9, b.spouse == null ? NONE : b.spouse};
            for (int i = 0; i < 4; i++) {
                if (what == 10 * (1 + e.getKey()) + i) {
                    return tell[i];
                }
            }
        }
        return OUTSIDE;
    }
}
