import java.util.List;
import java.util.function.Supplier;
import java.util.function.ToLongFunction;

/** A refusal changes nothing but how many there were: seen on two objects made alike, of which one is refused. */
final class Twins {
    private static final long LONGS = 4000000000000000000L;
    /** How many calls a maker may take at most. */
    private static final int MOST_MADE = 160;

    private Twins() {
    }

    static void refused(String call, int refusal, Supplier<MarketRings> maker, ToLongFunction<MarketRings> asked) {
        refusedAs(call, refusal, refusal, maker, asked);
    }

    /** By a call that answers a long. */
    static void refusedLong(String call, int refusal, Supplier<MarketRings> maker, ToLongFunction<MarketRings> asked) {
        refusedAs(call, LONGS - refusal, refusal, maker, asked);
    }

    private static void refusedAs(String call, long due, int refusal, Supplier<MarketRings> maker,
            ToLongFunction<MarketRings> asked) {
        MarketRings left = maker.get();
        MarketRings right = maker.get();
        Due.is(call, asked.applyAsLong(left), due);
        for (int what = 11; what <= 16; what++) {
            Due.is(call + ", then count(" + what + ")", left.count(what), right.count(what) + (what == 10 - refusal ? 1 : 0));
        }
        areAlike(call, left, right);
    }

    /** What a call answers that changes nothing and is no refusal, either. */
    static void changesNothing(String call, long due, Supplier<MarketRings> maker, ToLongFunction<MarketRings> asked) {
        MarketRings left = maker.get();
        MarketRings right = maker.get();
        Due.is(call, asked.applyAsLong(left), due);
        for (int what = 11; what <= 16; what++) {
            Due.is(call + ", then count(" + what + ")", left.count(what), right.count(what));
        }
        areAlike(call, left, right);
    }

    private static void areAlike(String call, MarketRings left, MarketRings right) {
        List<String> seen = Sight.of(left, MOST_MADE);
        List<String> due = Sight.of(right, MOST_MADE);
        Due.is(call + ", how many answers", seen.size(), due.size());
        for (int i = 0; i < seen.size() && i < due.size(); i++) {
            if (!seen.get(i).equals(due.get(i))) {
                Due.isTrue("behind " + call + ": " + seen.get(i) + ", due is " + due.get(i), false);
                return;
            }
        }
    }

    /** Something of everything: four acres, two markets, two uses, a road, a plan, an image, a tape and a row. */
    static MarketRings busy() {
        MarketRings x = Due.land("12/34");
        x.market(0);
        x.market(11);
        x.use(0, 5, 2, 10, 3);
        x.use(3, 4, 1, 5, 6);
        x.year(1, 7);
        x.price(0, 0, 30);
        x.price(1, 1, 35);
        x.piece(0, 0, 9, 40);
        x.piece(1, 1, 3, 50);
        x.tax(0, 4);
        x.tax(-1, 10);
        x.step(2, 4);
        x.toll(10, 3);
        x.road(0, 10, 3);
        x.plan(0, 1, 2, 5);
        x.own(0, 1);
        x.own(11, 1);
        x.own(1, 0);
        x.held(1, true);
        x.image();
        x.toll(0, 2);
        x.price(0, 0, 33);
        x.feed(3, 0x373635);
        x.put(0);
        x.put(-1);
        return x;
    }
}
