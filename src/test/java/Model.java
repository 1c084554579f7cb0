import java.math.BigInteger;
import java.util.ArrayList;
import java.util.List;
import java.util.TreeMap;
import java.util.TreeSet;

/** The document once more, as slow and as plain as can be: nothing is kept that can be reckoned again. */
final class Model {
    private static final long LONGS = 4000000000000000000L;

    private static final class Use {
        int kind, base, more, cost, fare, tax;
        List<Integer> years = new ArrayList<>();
    }

    private static final class Road {
        int from, to, kind, cost;

        Road(int from, int to, int kind, int cost) {
            this.from = from;
            this.to = to;
            this.kind = kind;
            this.cost = cost;
        }

        boolean joins(int a, int b) {
            return from == a && to == b || from == b && to == a;
        }
    }

    private static final class Sums {
        final TreeMap<Integer, Integer> soil = new TreeMap<>();
        final TreeMap<Integer, Integer> toll = new TreeMap<>();
        final TreeMap<Integer, Integer> owner = new TreeMap<>();
        final TreeSet<Integer> held = new TreeSet<>();
        final List<Road> roads = new ArrayList<>();
        final List<Road> plans = new ArrayList<>();
        final List<Integer> markets = new ArrayList<>();
        final List<Use> uses = new ArrayList<>();
        final int[] steps = {10, 6, 3, 2};
        final int[][] prices = new int[6][3];
        final List<List<int[]>> pieces = new ArrayList<>();
        int rentTax, wide = 1, high = 1;

        Sums() {
            soil.put(0, 0);
            for (int i = 0; i < 18; i++) {
                pieces.add(new ArrayList<>());
            }
        }

        Sums copy() {
            Sums c = new Sums();
            c.soil.clear();
            c.soil.putAll(soil);
            c.toll.putAll(toll);
            c.owner.putAll(owner);
            c.held.addAll(held);
            c.roads.addAll(roads);
            c.plans.addAll(plans);
            c.markets.addAll(markets);
            for (Use u : uses) {
                Use d = new Use();
                d.kind = u.kind;
                d.base = u.base;
                d.more = u.more;
                d.cost = u.cost;
                d.fare = u.fare;
                d.tax = u.tax;
                d.years.addAll(u.years);
                c.uses.add(d);
            }
            System.arraycopy(steps, 0, c.steps, 0, 4);
            for (int u = 0; u < 6; u++) {
                System.arraycopy(prices[u], 0, c.prices[u], 0, 3);
            }
            for (int i = 0; i < 18; i++) {
                c.pieces.get(i).addAll(pieces.get(i));
            }
            c.rentTax = rentTax;
            c.wide = wide;
            c.high = high;
            return c;
        }

        List<Integer> beside(int xy) {
            List<Integer> all = new ArrayList<>();
            for (int other : soil.keySet()) {
                if (Math.abs(other / 10 - xy / 10) + Math.abs(other % 10 - xy % 10) == 1) {
                    all.add(other);
                }
            }
            return all;
        }

        Road roadOf(int a, int b) {
            for (Road r : roads) {
                if (r.joins(a, b)) {
                    return r;
                }
            }
            return null;
        }

        int stepFrom(int a, int b, boolean foot) {
            if (foot) {
                return 10;
            }
            Road r = roadOf(a, b);
            if (r == null || r.kind == 3 && r.from != a) {
                return steps[0];
            }
            return steps[r.kind];
        }

        /** Forwards, nearest first. */
        int way(int a, int b, boolean foot) {
            TreeMap<Integer, Integer> done = new TreeMap<>();
            TreeMap<Integer, Integer> open = new TreeMap<>();
            open.put(a, 0);
            while (!done.containsKey(b)) {
                int near = -1;
                for (int xy : open.keySet()) {
                    if (near < 0 || open.get(xy) < open.get(near)) {
                        near = xy;
                    }
                }
                int far = open.remove(near);
                done.put(near, far);
                for (int next : beside(near)) {
                    int sum = far + stepFrom(near, next, foot) + toll.getOrDefault(next, 0);
                    if (!done.containsKey(next) && open.getOrDefault(next, Integer.MAX_VALUE) > sum) {
                        open.put(next, sum);
                    }
                }
            }
            return done.get(b);
        }

        final TreeMap<Integer, Integer> waysFound = new TreeMap<>();

        int wayTo(int use, int xy, int market) {
            boolean foot = uses.get(use).kind == 1;
            int key = xy * 10 + market * 2 + (foot ? 1 : 0);
            if (!waysFound.containsKey(key)) {
                waysFound.put(key, way(xy, markets.get(market), foot));
            }
            return waysFound.get(key);
        }

        int yieldOf(int use, int s) {
            Use u = uses.get(use);
            return u.base + (u.kind == 4 ? 0 : u.more * s);
        }

        int priceOf(int use, int market) {
            Use u = uses.get(use);
            int sum = 0;
            for (int y : u.years) {
                sum += y;
            }
            return prices[use][market] + (u.years.isEmpty() ? 0 : sum / u.years.size());
        }

        long bid(int use, int xy, int market) {
            Use u = uses.get(use);
            int way = wayTo(use, xy, market);
            if (u.kind == 5 || u.kind == 2 && way > 60) {
                return 0;
            }
            int y = yieldOf(use, soil.get(xy));
            int fare = u.kind == 1 ? u.fare / 2 : u.fare;
            return 100L * (y * priceOf(use, market) - u.cost - u.tax) - (long) fare * y * way;
        }

        /** 3 times the use and the market; -1 none. */
        int goes(int xy) {
            if (held.contains(xy)) {
                return -1;
            }
            int to = -1;
            long most = 0;
            for (int u = 0; u < uses.size(); u++) {
                for (int m = 0; m < markets.size(); m++) {
                    long b = bid(u, xy, m);
                    if (b > most) {
                        most = b;
                        to = 3 * u + m;
                    }
                }
            }
            return to;
        }

        long rent(int xy) {
            int to = goes(xy);
            if (to < 0) {
                return 0;
            }
            long b = bid(to / 3, xy, to % 3);
            return b - b * rentTax / 100;
        }

        long rents() {
            long sum = 0;
            for (int xy : soil.keySet()) {
                sum += rent(xy);
            }
            return sum;
        }

        int comes(int use, int market) {
            int sum = 0;
            for (int xy : soil.keySet()) {
                if (goes(xy) == 3 * use + market) {
                    sum += yieldOf(use, soil.get(xy));
                }
            }
            return sum;
        }

        int bought(int use, int market, int price) {
            int sum = 0;
            for (int[] p : pieces.get(3 * use + market)) {
                sum += p[1] >= price ? p[0] : 0;
            }
            return sum;
        }

        int clears(int use, int market) {
            int was = prices[use][market];
            int found = -9;
            for (int p = 0; p <= 999 && found < 0; p++) {
                prices[use][market] = p;
                if (comes(use, market) >= bought(use, market, p)) {
                    found = p;
                }
            }
            prices[use][market] = was;
            return found;
        }

        boolean round() {
            boolean changed = false;
            for (int u = 0; u < uses.size(); u++) {
                for (int m = 0; m < markets.size(); m++) {
                    if (!pieces.get(3 * u + m).isEmpty()) {
                        int p = clears(u, m);
                        if (p >= 0 && p != prices[u][m]) {
                            prices[u][m] = p;
                            changed = true;
                        }
                    }
                }
            }
            return changed;
        }

        long rentsOf(int who) {
            long sum = 0;
            for (int xy : soil.keySet()) {
                if (owner.getOrDefault(xy, -1) == who) {
                    sum += rent(xy);
                }
            }
            return sum;
        }

        Sums with(int set) {
            Sums c = copy();
            for (int i = 0; i < plans.size(); i++) {
                if ((set & 1 << i) != 0) {
                    Road p = plans.get(i);
                    c.roads.removeIf(r -> r.joins(p.from, p.to));
                    c.roads.add(p);
                }
            }
            return c;
        }
    }

    private Sums now = new Sums();
    private Sums image = null;
    private final List<Integer> tape = new ArrayList<>();
    private final List<Integer> row = new ArrayList<>();
    private final int[] refused = new int[7];

    private int no(int r) {
        refused[-r]++;
        return r;
    }

    private long noLong(int r) {
        return LONGS - no(r);
    }

    private boolean acreIs(int xy) {
        return now.soil.containsKey(xy);
    }

    private boolean useIs(int u) {
        return u >= 0 && u < now.uses.size();
    }

    private boolean marketIs(int m) {
        return m >= 0 && m < now.markets.size();
    }

    private void moved() {
        now.waysFound.clear();
    }

    int feed(int n, long bytes) {
        if (n < 1) {
            return no(-4);
        }
        if (n > 8 || tape.size() + n > 60) {
            return no(-6);
        }
        for (int i = 0; i < n; i++) {
            tape.add((int) (bytes >> 8 * i & 255));
        }
        return tape.size();
    }

    int read() {
        StringBuilder text = new StringBuilder();
        for (int b : tape) {
            text.append((char) b);
        }
        tape.clear();
        int fault = fault(text.toString());
        if (fault >= 0) {
            return -20 - fault;
        }
        Sums old = now;
        now = old.copy();
        now.soil.clear();
        now.toll.clear();
        now.owner.clear();
        now.held.clear();
        now.roads.clear();
        now.plans.clear();
        now.markets.clear();
        String[] lines = text.toString().split("/");
        for (int y = 0; y < lines.length; y++) {
            for (int x = 0; x < lines[y].length(); x++) {
                now.soil.put(10 * x + y, lines[y].charAt(x) - '0');
            }
        }
        now.wide = lines[0].length();
        now.high = lines.length;
        moved();
        return now.soil.size();
    }

    /** The longest beginning that some right text has tells the place. */
    private static int fault(String text) {
        for (int i = 0; i < text.length(); i++) {
            if (!canBegin(text.substring(0, i + 1))) {
                return i;
            }
        }
        return isWhole(text) ? -1 : text.length();
    }

    private static boolean canBegin(String text) {
        String[] lines = text.split("/", -1);
        boolean fine = lines.length <= 6 && text.matches("[0-9/]*");
        for (int i = 0; i < lines.length; i++) {
            int width = lines.length > 1 ? lines[0].length() : 8;
            boolean last = i == lines.length - 1;
            fine &= last ? lines[i].length() <= width : lines[i].length() == width && width > 0;
            fine &= lines[i].length() <= 8;
        }
        return fine;
    }

    private static boolean isWhole(String text) {
        String[] lines = text.split("/", -1);
        return canBegin(text) && lines[lines.length - 1].length() == lines[0].length() && !lines[0].isEmpty();
    }

    int acre(int xy, int what) {
        if (!acreIs(xy)) {
            return no(-1);
        }
        switch (what) {
            case 0: return now.soil.get(xy);
            case 1: return now.toll.getOrDefault(xy, 0);
            case 2: return now.held.contains(xy) ? 1 : 0;
            case 3: return now.owner.getOrDefault(xy, -9);
            case 4: return now.markets.contains(xy) ? now.markets.indexOf(xy) : -9;
            default: return no(-2);
        }
    }

    int road(int a, int b, int kind) {
        if (!acreIs(a) || !acreIs(b) || !now.beside(a).contains(b)) {
            return no(-1);
        }
        if (kind < 0 || kind > 3) {
            return no(-2);
        }
        Road old = now.roadOf(a, b);
        if (old == null && kind != 0 && now.roads.size() == 12) {
            return no(-6);
        }
        now.roads.remove(old);
        if (kind != 0) {
            now.roads.add(new Road(a, b, kind, 0));
        }
        moved();
        return old == null ? 0 : old.kind;
    }

    int step(int kind, int v) {
        if (kind < 0 || kind > 3) {
            return no(-2);
        }
        if (v < 1 || v > 99) {
            return no(v < 1 ? -4 : -6);
        }
        int was = now.steps[kind];
        now.steps[kind] = v;
        moved();
        return was;
    }

    int toll(int xy, int v) {
        if (!acreIs(xy)) {
            return no(-1);
        }
        if (v < 0 || v > 99) {
            return no(v < 0 ? -4 : -6);
        }
        Integer was = now.toll.put(xy, v);
        moved();
        return was == null ? 0 : was;
    }

    int way(int a, int b) {
        return acreIs(a) && acreIs(b) ? now.way(a, b, false) : no(-1);
    }

    int market(int xy) {
        if (!acreIs(xy)) {
            return no(-1);
        }
        if (now.markets.contains(xy)) {
            return no(-3);
        }
        if (now.markets.size() == 3) {
            return no(-6);
        }
        now.markets.add(xy);
        return now.markets.size() - 1;
    }

    int use(int kind, int base, int more, int cost, int fare) {
        if (kind < 0 || kind > 5) {
            return no(-2);
        }
        if (Math.min(Math.min(base, more), Math.min(cost, fare)) < 0) {
            return no(-4);
        }
        if (base > 99 || more > 99 || cost > 9999 || fare > 99 || now.uses.size() == 6) {
            return no(-6);
        }
        Use u = new Use();
        u.kind = kind;
        u.base = base;
        u.more = more;
        u.cost = cost;
        u.fare = fare;
        now.uses.add(u);
        return now.uses.size() - 1;
    }

    int year(int use, int v) {
        if (!useIs(use)) {
            return no(-1);
        }
        Use u = now.uses.get(use);
        if (u.kind != 3) {
            return no(-3);
        }
        if (v < -99) {
            return no(-4);
        }
        if (v > 99 || u.years.size() == 6) {
            return no(-6);
        }
        u.years.add(v);
        return u.years.size();
    }

    int price(int use, int market, int v) {
        if (!useIs(use) || !marketIs(market)) {
            return no(-1);
        }
        if (v < 0 || v > 999) {
            return no(v < 0 ? -4 : -6);
        }
        int was = now.prices[use][market];
        now.prices[use][market] = v;
        return was;
    }

    int tax(int use, int v) {
        if (use != -1 && !useIs(use)) {
            return no(-1);
        }
        if (v < 0) {
            return no(-4);
        }
        if (v > (use == -1 ? 100 : 9999)) {
            return no(-6);
        }
        int was;
        if (use == -1) {
            was = now.rentTax;
            now.rentTax = v;
        } else {
            was = now.uses.get(use).tax;
            now.uses.get(use).tax = v;
        }
        return was;
    }

    long bid(int use, int xy, int market) {
        return useIs(use) && acreIs(xy) && marketIs(market) ? now.bid(use, xy, market) : noLong(-1);
    }

    int goes(int xy, int what) {
        if (!acreIs(xy)) {
            return no(-1);
        }
        if (what < 0 || what > 1) {
            return no(-2);
        }
        int to = now.goes(xy);
        return to < 0 ? -9 : what == 0 ? to / 3 : to % 3;
    }

    long rent(int xy) {
        return xy == -1 ? now.rents() : acreIs(xy) ? now.rent(xy) : noLong(-1);
    }

    int comes(int use, int market) {
        return useIs(use) && marketIs(market) ? now.comes(use, market) : no(-1);
    }

    int piece(int use, int market, int much, int price) {
        if (!useIs(use) || !marketIs(market)) {
            return no(-1);
        }
        if (much < 0 || price < 0) {
            return no(-4);
        }
        List<int[]> all = now.pieces.get(3 * use + market);
        if (much > 9999 || price > 999 || all.size() == 6) {
            return no(-6);
        }
        all.add(new int[] {much, price});
        return all.size();
    }

    int bought(int use, int market, int price) {
        if (!useIs(use) || !marketIs(market)) {
            return no(-1);
        }
        if (price < 0 || price > 999) {
            return no(price < 0 ? -4 : -6);
        }
        return now.bought(use, market, price);
    }

    int clears(int use, int market) {
        return useIs(use) && marketIs(market) ? now.clears(use, market) : no(-1);
    }

    int rounds(int n) {
        if (n < 1 || n > 20) {
            return no(n < 1 ? -4 : -6);
        }
        int gone = 0;
        boolean changed = true;
        while (changed && gone < n) {
            changed = now.round();
            gone++;
        }
        return gone;
    }

    /** An exact number of the line. */
    private static final class Point implements Comparable<Point> {
        final BigInteger above, below;

        Point(BigInteger a, BigInteger b) {
            BigInteger common = a.gcd(b).multiply(BigInteger.valueOf(b.signum()));
            above = a.divide(common);
            below = b.divide(common);
        }

        Point(long a, long b) {
            this(BigInteger.valueOf(a), BigInteger.valueOf(b));
        }

        Point middle(Point o) {
            BigInteger sum = above.multiply(o.below).add(o.above.multiply(below));
            return new Point(sum, below.multiply(o.below).shiftLeft(1));
        }

        @Override
        public int compareTo(Point o) {
            return above.multiply(o.below).compareTo(o.above.multiply(below));
        }
    }

    /** Rows of the use, and the point where it ends (null: never). */
    private List<Object[]> ringsOn(int soil) {
        int n = now.uses.size();
        long[] home = new long[n];
        long[] slope = new long[n];
        TreeSet<Point> cuts = new TreeSet<>();
        cuts.add(new Point(0, 1));
        cuts.add(new Point(60, 1));
        for (int u = 0; u < n; u++) {
            Use x = now.uses.get(u);
            long y = now.yieldOf(u, soil);
            home[u] = 100L * (y * now.priceOf(u, 0) - x.cost - x.tax);
            slope[u] = y * (x.kind == 1 ? x.fare / 2 : x.fare);
            if (slope[u] != 0) {
                cuts.add(new Point(home[u], slope[u]));
            }
            for (int o = 0; o < u; o++) {
                if (slope[o] != slope[u]) {
                    cuts.add(new Point(home[o] - home[u], slope[o] - slope[u]));
                }
            }
        }
        List<Point> line = new ArrayList<>(cuts.tailSet(new Point(0, 1)));
        List<Object[]> rings = new ArrayList<>();
        int before = -1;
        for (int i = 0; i < line.size(); i++) {
            Point end = i + 1 < line.size() ? line.get(i + 1) : null;
            Point in = line.get(i).middle(end == null ? new Point(1000000000000L, 1) : end);
            int who = -1;
            BigInteger most = BigInteger.ZERO;
            for (int u = 0; u < n; u++) {
                int kind = now.uses.get(u).kind;
                BigInteger bid = BigInteger.valueOf(home[u]).multiply(in.below)
                    .subtract(BigInteger.valueOf(slope[u]).multiply(in.above));
                boolean there = kind < 4 && !(kind == 2 && in.compareTo(new Point(60, 1)) > 0);
                if (there && bid.compareTo(most) > 0) {
                    most = bid;
                    who = u;
                }
            }
            if (who >= 0 && who == before) {
                rings.get(rings.size() - 1)[1] = end;
            } else if (who >= 0) {
                rings.add(new Object[] {who, end});
            }
            before = who;
        }
        return rings;
    }

    private int unfitRing(int soil, int i) {
        if (soil < 0 || i < 0) {
            return -4;
        }
        if (soil > 9 || i > 9) {
            return -6;
        }
        return now.markets.isEmpty() ? -3 : 0;
    }

    int ring(int soil, int i) {
        if (unfitRing(soil, i) != 0) {
            return no(unfitRing(soil, i));
        }
        List<Object[]> rings = ringsOn(soil);
        return i < rings.size() ? (Integer) rings.get(i)[0] : -9;
    }

    long edge(int soil, int i, int part) {
        if (part != 0 && part != 1) {
            return noLong(-2);
        }
        if (unfitRing(soil, i) != 0) {
            return noLong(unfitRing(soil, i));
        }
        List<Object[]> rings = ringsOn(soil);
        if (i >= rings.size()) {
            return noLong(-1);
        }
        Point end = (Point) rings.get(i)[1];
        if (end == null) {
            return part == 0 ? -9 : 1;
        }
        return (part == 0 ? end.above : end.below).longValueExact();
    }

    int out(int use) {
        if (!useIs(use)) {
            return no(-1);
        }
        int most = -9;
        for (int xy : now.soil.keySet()) {
            int to = now.goes(xy);
            if (to >= 0 && to / 3 == use) {
                most = Math.max(most, now.wayTo(use, xy, to % 3));
            }
        }
        return most;
    }

    int borders() {
        int pairs = 0;
        for (int xy : now.soil.keySet()) {
            for (int other : now.beside(xy)) {
                int a = now.goes(xy);
                int b = now.goes(other);
                if (other > xy && a >= 0 && b >= 0 && a % 3 != b % 3) {
                    pairs++;
                }
            }
        }
        return pairs;
    }

    int plan(int a, int b, int kind, int cost) {
        if (!acreIs(a) || !acreIs(b) || !now.beside(a).contains(b)) {
            return no(-1);
        }
        if (kind < 1 || kind > 3) {
            return no(-2);
        }
        if (cost < 0) {
            return no(-4);
        }
        if (cost > 99999 || now.plans.size() == 8) {
            return no(-6);
        }
        if (now.roadOf(a, b) != null) {
            return no(-3);
        }
        now.plans.add(new Road(a, b, kind, cost));
        return now.plans.size() - 1;
    }

    private boolean isBuilt(int plan) {
        Road p = now.plans.get(plan);
        return now.roadOf(p.from, p.to) != null;
    }

    long gain(int plan) {
        if (plan < 0 || plan >= now.plans.size()) {
            return noLong(-1);
        }
        if (isBuilt(plan)) {
            return noLong(-3);
        }
        return now.with(1 << plan).rents() - now.rents() - 100L * now.plans.get(plan).cost;
    }

    int best(int sum) {
        if (sum < 0 || sum > 99999) {
            return no(sum < 0 ? -4 : -6);
        }
        for (int i = 0; i < now.plans.size(); i++) {
            if (isBuilt(i)) {
                return no(-3);
            }
        }
        int found = -1;
        long most = 0;
        long least = 0;
        for (int set = 0; set < 1 << now.plans.size(); set++) {
            long cost = 0;
            for (int i = 0; i < now.plans.size(); i++) {
                cost += (set & 1 << i) != 0 ? now.plans.get(i).cost : 0;
            }
            if (cost <= sum) {
                long rents = now.with(set).rents();
                if (found < 0 || rents > most || rents == most && cost < least) {
                    found = set;
                    most = rents;
                    least = cost;
                }
            }
        }
        return found;
    }

    int losers(int plan) {
        if (plan < 0 || plan >= now.plans.size()) {
            return no(-1);
        }
        if (isBuilt(plan)) {
            return no(-3);
        }
        Sums with = now.with(1 << plan);
        int losing = 0;
        for (int xy : now.soil.keySet()) {
            losing += with.rent(xy) < now.rent(xy) ? 1 : 0;
        }
        return losing;
    }

    int falls(int use, int v) {
        if (!useIs(use)) {
            return no(-1);
        }
        if (v < 0 || v > 9999) {
            return no(v < 0 ? -4 : -6);
        }
        Sums taxed = now.copy();
        taxed.uses.get(use).tax = v;
        int fallen = 0;
        for (int xy : now.soil.keySet()) {
            int to = now.goes(xy);
            fallen += to >= 0 && to / 3 == use && taxed.goes(xy) < 0 ? 1 : 0;
        }
        return fallen;
    }

    int own(int xy, int owner) {
        if (!acreIs(xy)) {
            return no(-1);
        }
        if (owner < -1 || owner > 3) {
            return no(owner < -1 ? -4 : -6);
        }
        Integer was = owner == -1 ? now.owner.remove(xy) : now.owner.put(xy, owner);
        return (was == null ? -1 : was) == owner ? 0 : 1;
    }

    int held(int xy, boolean is) {
        if (!acreIs(xy)) {
            return no(-1);
        }
        return (is ? now.held.add(xy) : now.held.remove(xy)) ? 1 : 0;
    }

    int hold(int owner) {
        if (owner < 0 || owner > 3) {
            return no(owner < 0 ? -4 : -6);
        }
        Sums free = now.copy();
        free.round();
        long most = free.rentsOf(owner);
        int found = -9;
        for (int xy : now.soil.keySet()) {
            if (now.owner.getOrDefault(xy, -1) == owner && now.goes(xy) >= 0) {
                Sums tried = now.copy();
                tried.held.add(xy);
                tried.round();
                long rents = tried.rentsOf(owner);
                if (rents > most) {
                    most = rents;
                    found = xy;
                }
            }
        }
        return found;
    }

    int put(int v) {
        if (v < -1) {
            return no(-4);
        }
        if (v > 99 || row.size() == 48) {
            return no(-6);
        }
        row.add(v);
        return row.size();
    }

    int judge() {
        List<Integer> told = new ArrayList<>(row);
        row.clear();
        int i = 0;
        for (int y = 0; y < now.high; y++) {
            for (int x = 0; x < now.wide; x++) {
                int to = now.goes(10 * x + y);
                int due = to < 0 ? -1 : to / 3;
                if (i >= told.size() || told.get(i) != due) {
                    return 10 * x + y;
                }
                i++;
            }
        }
        return i < told.size() ? 99 : -9;
    }

    int image() {
        image = now.copy();
        return now.soil.size();
    }

    int on() {
        if (image == null) {
            return no(-3);
        }
        now = image.copy();
        return now.soil.size();
    }

    int count(int what) {
        switch (what) {
            case 0: return now.wide;
            case 1: return now.high;
            case 2: return now.markets.size();
            case 3: return now.uses.size();
            case 4: return now.roads.size();
            case 5: return now.plans.size();
            case 6:
                int waste = 0;
                for (int xy : now.soil.keySet()) {
                    waste += now.goes(xy) < 0 ? 1 : 0;
                }
                return waste;
            case 7: return now.held.size();
            case 8: return tape.size();
            case 9: return row.size();
            default: return what > 10 && what < 17 ? refused[what - 10] : -9;
        }
    }
}
