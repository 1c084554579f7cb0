import java.util.ArrayList;
import java.util.List;
import java.util.TreeMap;

/** Long runs of thrown calls, each answered by the program and by the plain model alike. */
public final class ModelTest {
    private static final String[] CALLS = {"feed", "read", "acre", "road", "step", "toll", "way", "market", "use",
        "year", "price", "tax", "bid", "goes", "rent", "comes", "piece", "bought", "clears", "rounds", "ring", "edge",
        "out", "borders", "plan", "gain", "best", "losers", "falls", "own", "held", "hold", "put", "judge", "image",
        "on", "count"};
    /** How often each is thrown, and how often in a wide land, where the model is slow. */
    private static final int[] OFTEN = {2, 1, 3, 10, 4, 5, 8, 5, 7,
        5, 16, 6, 8, 8, 8, 6, 10, 4, 8, 3, 8, 8,
        5, 5, 14, 10, 4, 10, 10, 12, 5, 14, 5, 2, 2,
        2, 8};
    private static final int[] OFTEN_WIDE = {2, 0, 3, 12, 4, 6, 8, 4, 6,
        5, 14, 8, 8, 8, 8, 6, 6, 4, 1, 0, 8, 8,
        5, 5, 8, 6, 1, 6, 6, 10, 6, 0, 30, 1, 2,
        2, 10};

    private final Dice dice;
    private final MarketRings real = new MarketRings();
    private final Model model = new Model();
    private final List<String> told = new ArrayList<>();
    private final boolean isWide;
    private static final TreeMap<String, Integer> worth = new TreeMap<>();

    private ModelTest(int seed) {
        dice = new Dice(seed);
        isWide = seed % 10 == 9;
    }

    private boolean same(String call, long got, long due) {
        told.add(call + " = " + due);
        if (got == due) {
            if (due >= 0 && due < 4000000000000000000L) {
                worth.merge(call.substring(0, call.indexOf('(')), 1, Integer::sum);
            }
            return true;
        }
        System.out.println("not as the model: " + call + " answered " + got + ", the model " + due + ", behind");
        for (String line : told) {
            System.out.println("  " + line);
        }
        return false;
    }

    /** A number within bounds mostly, now and then one beside them. */
    private int near(int least, int greatest) {
        switch (dice.below(60)) {
            case 0: return least - 1;
            case 1: return greatest + 1;
            case 2: return least;
            case 3: return greatest;
            case 4: return dice.once(2) ? Integer.MIN_VALUE : Integer.MAX_VALUE;
            default: return dice.from(least, greatest);
        }
    }

    private int xy() {
        if (dice.once(40)) {
            return dice.from(-12, 100);
        }
        return 10 * dice.below(model.count(0)) + dice.below(model.count(1));
    }

    private int beside(int xy) {
        if (dice.once(30)) {
            return xy();
        }
        int[] steps = {10, -10, 1, -1};
        for (int i = 0; i < 8; i++) {
            int other = xy + steps[dice.below(4)];
            int x = other / 10;
            if (other >= 0 && x < model.count(0) && other % 10 < model.count(1)
                    && (x == xy / 10 || other % 10 == xy % 10)) {
                return other;
            }
        }
        return xy;
    }

    private int use() {
        return model.count(3) == 0 || dice.once(40) ? near(0, 6) : dice.below(model.count(3));
    }

    private int market() {
        return model.count(2) == 0 || dice.once(40) ? near(0, 3) : dice.below(model.count(2));
    }

    private int anOwner(int xy) {
        // Asked of both, as a refusal is counted.
        real.acre(xy, 3);
        return Math.max(0, model.acre(xy, 3));
    }

    private int planNumber() {
        return model.count(5) == 0 || dice.once(20) ? near(0, 7) : dice.below(model.count(5));
    }

    private boolean feedText(String text) {
        boolean fine = true;
        for (int i = 0; i < text.length() && fine; i += 8) {
            int n = Math.min(8, text.length() - i);
            long bytes = 0;
            for (int k = n - 1; k >= 0; k--) {
                bytes = bytes << 8 | text.charAt(i + k);
            }
            fine = same("feed(" + n + ", " + bytes + ")", real.feed(n, bytes), model.feed(n, bytes));
        }
        return fine;
    }

    private String text(int wide, int high) {
        StringBuilder s = new StringBuilder();
        for (int y = 0; y < high; y++) {
            s.append(y == 0 ? "" : "/");
            for (int x = 0; x < wide; x++) {
                s.append((char) ('0' + dice.below(dice.once(3) ? 10 : 3)));
            }
        }
        return s.toString();
    }

    private boolean newLand() {
        int wide = isWide ? dice.from(5, 8) : dice.from(1, 4);
        int high = isWide ? dice.from(4, 6) : dice.from(1, 3);
        StringBuilder text = new StringBuilder(text(wide, high));
        if (dice.once(3)) {
            int at = dice.below(text.length());
            String odd = "/0a:.9";
            text.insert(at, odd.charAt(dice.below(odd.length())));
        }
        if (dice.once(4)) {
            text.setLength(dice.below(text.length() + 1));
        }
        return feedText(text.toString()) && same("read()", real.read(), model.read());
    }

    private boolean begin() {
        boolean fine = feedText(isWide ? text(8, 6) : text(dice.from(2, 5), dice.from(1, 3)))
            && same("read()", real.read(), model.read());
        int markets = dice.from(1, 3);
        int uses = dice.from(2, 5);
        for (int i = 0; i < 30 && fine && model.count(2) < markets; i++) {
            fine = throwCall("market");
        }
        for (int i = 0; i < 30 && fine && model.count(3) < uses; i++) {
            fine = throwCall("use");
        }
        for (int i = dice.from(5, 15); i >= 0 && fine; i--) {
            fine = throwCall("price") && throwCall("own") && throwCall("piece");
        }
        return fine && (dice.once(2) || oneOwner(dice.below(4)));
    }

    private boolean oneOwner(int owner) {
        boolean fine = true;
        for (int i = 0; i < 48 && fine; i++) {
            int xy = i / 6 * 10 + i % 6;
            fine = model.acre(xy, 0) < 0 == real.acre(xy, 0) < 0
                && same("own(" + xy + ", " + owner + ")", real.own(xy, owner), model.own(xy, owner));
        }
        return fine;
    }

    private boolean run() {
        if (!begin()) {
            return false;
        }
        int[] often = isWide ? OFTEN_WIDE : OFTEN;
        int all = 0;
        for (int n : often) {
            all += n;
        }
        while (told.size() < (isWide ? 300 : 500)) {
            int which = dice.below(all);
            int i = 0;
            while (which >= often[i]) {
                which -= often[i];
                i++;
            }
            if (!throwCall(CALLS[i])) {
                return false;
            }
        }
        for (int what = -1; what < 18; what++) {
            if (!same("count(" + what + ")", real.count(what), model.count(what))) {
                return false;
            }
        }
        return true;
    }

    private boolean throwCall(String call) {
        int a = xy();
        int u = use();
        int m = market();
        int v;
        int k;
        switch (call) {
            case "feed":
                v = near(1, 8);
                long bytes = (long) dice.below(1 << 30) << 33 ^ dice.below(1 << 30);
                return same("feed(" + v + ", " + bytes + ")", real.feed(v, bytes), model.feed(v, bytes));
            case "read":
                return dice.once(4) ? newLand() : same("read()", real.read(), model.read());
            case "acre":
                v = near(0, 4);
                return same("acre(" + a + ", " + v + ")", real.acre(a, v), model.acre(a, v));
            case "road":
                v = beside(a);
                k = near(0, 3);
                return same("road(" + a + ", " + v + ", " + k + ")", real.road(a, v, k), model.road(a, v, k));
            case "step":
                k = near(0, 3);
                v = dice.once(3) ? near(1, 99) : near(1, 12);
                return same("step(" + k + ", " + v + ")", real.step(k, v), model.step(k, v));
            case "toll":
                v = dice.once(3) ? near(0, 99) : near(0, 9);
                return same("toll(" + a + ", " + v + ")", real.toll(a, v), model.toll(a, v));
            case "way":
                v = xy();
                return same("way(" + a + ", " + v + ")", real.way(a, v), model.way(a, v));
            case "market":
                return same("market(" + a + ")", real.market(a), model.market(a));
            case "use":
                return throwUse();
            case "year":
                v = near(-99, 99);
                return same("year(" + u + ", " + v + ")", real.year(u, v), model.year(u, v));
            case "price":
                v = dice.once(4) ? near(0, 999) : near(8, 90);
                return same("price(" + u + ", " + m + ", " + v + ")", real.price(u, m, v), model.price(u, m, v));
            case "tax":
                u = dice.once(6) ? -1 : u;
                v = u == -1 ? near(0, 100) : dice.once(5) ? near(0, 9999) : near(0, 150);
                return same("tax(" + u + ", " + v + ")", real.tax(u, v), model.tax(u, v));
            case "bid":
                return same("bid(" + u + ", " + a + ", " + m + ")", real.bid(u, a, m), model.bid(u, a, m));
            case "goes":
                v = near(0, 1);
                return same("goes(" + a + ", " + v + ")", real.goes(a, v), model.goes(a, v));
            case "rent":
                v = dice.once(3) ? -1 : a;
                return same("rent(" + v + ")", real.rent(v), model.rent(v));
            case "comes":
                return same("comes(" + u + ", " + m + ")", real.comes(u, m), model.comes(u, m));
            case "piece":
                v = dice.once(9) ? near(0, 9999) : near(0, 60);
                k = dice.once(5) ? near(0, 999) : near(0, 90);
                return same("piece(" + u + ", " + m + ", " + v + ", " + k + ")",
                    real.piece(u, m, v, k), model.piece(u, m, v, k));
            default:
                return throwRest(call, a, u, m);
        }
    }

    private boolean throwUse() {
        int k = near(0, 5);
        int base = dice.once(6) ? near(0, 99) : near(0, 12);
        int more = dice.once(6) ? near(0, 99) : near(0, 4);
        int cost = dice.once(12) ? near(0, 9999) : near(0, 60);
        int fare = dice.once(6) ? near(0, 99) : near(0, 12);
        return same("use(" + k + ", " + base + ", " + more + ", " + cost + ", " + fare + ")",
            real.use(k, base, more, cost, fare), model.use(k, base, more, cost, fare));
    }

    private boolean throwRest(String call, int a, int u, int m) {
        int v;
        int k;
        switch (call) {
            case "bought":
                v = dice.once(4) ? near(0, 999) : near(0, 60);
                return same("bought(" + u + ", " + m + ", " + v + ")", real.bought(u, m, v), model.bought(u, m, v));
            case "clears":
                return same("clears(" + u + ", " + m + ")", real.clears(u, m), model.clears(u, m));
            case "rounds":
                v = dice.once(5) ? near(1, 20) : dice.from(1, 4);
                return same("rounds(" + v + ")", real.rounds(v), model.rounds(v));
            case "ring":
                v = near(0, 9);
                k = dice.once(4) ? near(0, 9) : dice.below(4);
                return same("ring(" + v + ", " + k + ")", real.ring(v, k), model.ring(v, k));
            case "edge":
                v = near(0, 9);
                k = dice.once(4) ? near(0, 9) : dice.below(4);
                u = near(0, 1);
                return same("edge(" + v + ", " + k + ", " + u + ")", real.edge(v, k, u), model.edge(v, k, u));
            case "out":
                return same("out(" + u + ")", real.out(u), model.out(u));
            case "borders":
                return same("borders()", real.borders(), model.borders());
            case "plan":
                v = beside(a);
                k = near(1, 3);
                m = dice.once(4) ? near(0, 99999) : near(0, 12);
                return same("plan(" + a + ", " + v + ", " + k + ", " + m + ")",
                    real.plan(a, v, k, m), model.plan(a, v, k, m));
            case "gain":
                v = planNumber();
                return same("gain(" + v + ")", real.gain(v), model.gain(v));
            case "best":
                v = dice.once(4) ? near(0, 99999) : near(0, 80);
                return same("best(" + v + ")", real.best(v), model.best(v));
            case "losers":
                v = planNumber();
                return same("losers(" + v + ")", real.losers(v), model.losers(v));
            case "falls":
                v = dice.once(4) ? near(0, 9999) : near(0, 250);
                return same("falls(" + u + ", " + v + ")", real.falls(u, v), model.falls(u, v));
            case "own":
                v = near(-1, 3);
                return same("own(" + a + ", " + v + ")", real.own(a, v), model.own(a, v));
            case "held":
                boolean is = dice.once(3);
                return same("held(" + a + ", " + is + ")", real.held(a, is), model.held(a, is));
            case "hold":
                v = dice.once(5) ? near(0, 3) : anOwner(a);
                return same("hold(" + v + ")", real.hold(v), model.hold(v));
            case "put":
                v = near(-1, 99);
                return same("put(" + v + ")", real.put(v), model.put(v));
            case "judge":
                return throwJudge();
            case "image":
                return same("image()", real.image(), model.image());
            case "on":
                return same("on()", real.on(), model.on());
            case "count":
                v = near(0, 17);
                return same("count(" + v + ")", real.count(v), model.count(v));
            default:
                throw new IllegalStateException(call);
        }
    }

    /** Mostly with a row that is right, or nearly so. */
    private boolean throwJudge() {
        boolean fine = dice.once(4) || same("judge()", real.judge(), model.judge());
        int acres = model.count(0) * model.count(1) + (dice.once(4) ? dice.from(-1, 1) : 0);
        for (int i = 0; i < acres && fine; i++) {
            int xy = 10 * (i % model.count(0)) + i / model.count(0);
            int v = Math.max(-1, model.goes(xy, 0));
            v = dice.once(40) ? dice.from(-1, 5) : v;
            // The goes above may be one beyond the land, which the program has to have refused as well.
            real.goes(xy, 0);
            fine = same("put(" + v + ")", real.put(v), model.put(v));
        }
        return fine && same("judge()", real.judge(), model.judge());
    }

    public static void main(String[] args) {
        int runs = args.length > 0 ? Integer.parseInt(args[0]) : 100;
        for (int seed = 0; seed < runs; seed++) {
            if (!new ModelTest(seed).run()) {
                System.out.println("seed " + seed);
                System.exit(1);
            }
        }
        boolean fine = true;
        for (String call : CALLS) {
            fine &= worth.getOrDefault(call, 0) >= 20;
        }
        if (args.length > 0 || !fine) {
            System.out.println("answers from 0 on: " + worth);
        }
        if (!fine) {
            System.out.println("some calls were hardly tried");
            System.exit(1);
        }
    }
}
