import java.util.ArrayList;
import java.util.List;

/** All that can be asked of an object, as lines; the object is used up by it. */
final class Sight {
    private static final int MOST_CALLS = 512;
    private static final int FEW = 6;

    private final MarketRings x;
    private final List<String> told = new ArrayList<>();
    private final List<Integer> acres = new ArrayList<>();
    private int markets;
    private int uses;
    private int plans;

    private Sight(MarketRings x) {
        this.x = x;
    }

    /** What an object answers that has been asked so many calls already. */
    static List<String> of(MarketRings x, int calls) {
        Sight s = new Sight(x);
        s.counts();
        s.find();
        s.land();
        s.ways();
        s.trade();
        s.rings();
        s.plansAndOwners();
        s.whatIsTold();
        s.roads();
        s.imageAndTape();
        Due.isTrue("no more than 512 calls: " + (calls + s.told.size()), calls + s.told.size() <= MOST_CALLS);
        return s.told;
    }

    private void tell(String call, long answer) {
        told.add(call + " = " + answer);
    }

    private int count(int what) {
        int n = x.count(what);
        tell("count(" + what + ")", n);
        return n;
    }

    private void counts() {
        markets = count(2);
        uses = count(3);
        plans = count(5);
        count(4);
        for (int what = 6; what <= 9; what++) {
            count(what);
        }
    }

    /** All acres of a small land, corners and the like of a great one. */
    private void find() {
        acres.clear();
        int wide = count(0);
        int high = count(1);
        for (int xy = 0; xy < 10 * wide; xy++) {
            boolean near = xy / 10 < 2 && xy % 10 < 2 || xy == 10 * (wide - 1) + high - 1;
            if (xy % 10 < high && (wide * high <= FEW || near)) {
                acres.add(xy);
            }
        }
    }

    private void land() {
        for (int xy : acres) {
            for (int what = 0; what < 5; what++) {
                tell("acre(" + xy + ", " + what + ")", x.acre(xy, what));
            }
            tell("goes(" + xy + ", 0)", x.goes(xy, 0));
            tell("goes(" + xy + ", 1)", x.goes(xy, 1));
            tell("rent(" + xy + ")", x.rent(xy));
        }
        tell("rent(-1)", x.rent(-1));
        tell("borders()", x.borders());
    }

    private static boolean areBeside(int a, int b) {
        return Math.abs(a / 10 - b / 10) + Math.abs(a % 10 - b % 10) == 1;
    }

    private void ways() {
        for (int a : acres) {
            for (int b : acres) {
                if (areBeside(a, b)) {
                    tell("way(" + a + ", " + b + ")", x.way(a, b));
                }
            }
        }
    }

    private void trade() {
        int last = acres.get(acres.size() - 1);
        for (int use = 0; use < uses; use++) {
            for (int market = 0; market < markets; market++) {
                tell("bid(" + use + ", 0, " + market + ")", x.bid(use, 0, market));
                tell("bid(" + use + ", " + last + ", " + market + ")", x.bid(use, last, market));
                tell("comes(" + use + ", " + market + ")", x.comes(use, market));
                tell("bought(" + use + ", " + market + ", 1)", x.bought(use, market, 1));
                tell("clears(" + use + ", " + market + ")", x.clears(use, market));
            }
            tell("out(" + use + ")", x.out(use));
            tell("falls(" + use + ", 9999)", x.falls(use, 9999));
        }
    }

    private void rings() {
        if (markets > 0) {
            tell("ring(0, 0)", x.ring(0, 0));
            tell("ring(9, 1)", x.ring(9, 1));
            tell("edge(9, 0, 0)", x.edge(9, 0, 0));
            tell("edge(9, 0, 1)", x.edge(9, 0, 1));
        }
    }

    private void plansAndOwners() {
        for (int plan = 0; plan < plans; plan++) {
            tell("gain(" + plan + ")", x.gain(plan));
            tell("losers(" + plan + ")", x.losers(plan));
        }
        tell("best(99999)", x.best(99999));
        for (int owner = 0; owner < 4; owner++) {
            tell("hold(" + owner + ")", x.hold(owner));
        }
    }

    /** From here on what is asked changes what is there. */
    private void whatIsTold() {
        for (int use = 0; use < uses; use++) {
            for (int market = 0; market < markets; market++) {
                tell("price(" + use + ", " + market + ", 7)", x.price(use, market, 7));
                tell("piece(" + use + ", " + market + ", 1, 1)", x.piece(use, market, 1, 1));
            }
            tell("tax(" + use + ", 1)", x.tax(use, 1));
            tell("year(" + use + ", 1)", x.year(use, 1));
        }
        tell("tax(-1, 1)", x.tax(-1, 1));
        for (int kind = 0; kind < 4; kind++) {
            tell("step(" + kind + ", 9)", x.step(kind, 9));
        }
    }

    private void roads() {
        for (int a : acres) {
            for (int b : acres) {
                if (a < b && areBeside(a, b)) {
                    tell("road(" + a + ", " + b + ", 0)", x.road(a, b, 0));
                }
            }
        }
    }

    private void imageAndTape() {
        tell("judge()", x.judge());
        tell("on()", x.on());
        counts();
        find();
        land();
        tell("read()", x.read());
        find();
        tell("acre(0, 0)", x.acre(0, 0));
        tell("last", x.acre(acres.get(acres.size() - 1), 0));
    }
}
