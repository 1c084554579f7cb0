/** Promises 10 to 17, 24, 25 and 30, sentence by sentence: the edges that the document names. */
public final class UsesBoundsTest {
    public static void main(String[] args) {
        Each.run(UsesBoundsTest.class);
    }

    /** A line of acres of one soil with market 0 on the first. */
    private static MarketRings line(int acres, int soil) {
        StringBuilder text = new StringBuilder();
        for (int i = 0; i < acres; i++) {
            text.append(soil);
        }
        MarketRings x = Due.land(text.toString());
        x.market(0);
        return x;
    }

    // Promise 10: uses.

    private static void promise10TheLeastUse() {
        MarketRings x = line(1, 9);
        Due.is("number", x.use(0, 0, 0, 0, 0), 0);
        x.price(0, 0, 999);
        Due.is("yields nothing", x.bid(0, 0, 0), 0);
        Due.is("counted", x.count(3), 1);
    }

    private static void promise10TheGreatestUse() {
        MarketRings x = line(2, 9);
        Due.is("number", x.use(0, 99, 99, 9999, 99), 0);
        Due.is("cost", x.bid(0, 0, 0), -999900);
        x.price(0, 0, 999);
        Due.is("yield", x.bid(0, 0, 0), 100L * 990 * 999 - 999900);
        Due.is("fare", x.bid(0, 10, 0), 100L * 990 * 999 - 999900 - 99 * 990 * 10);
    }

    private static void promise10TheGreatestKind() {
        MarketRings x = line(1, 0);
        Due.is("number", x.use(5, 9, 9, 0, 0), 0);
        x.price(0, 0, 9);
        Due.is("waste", x.bid(0, 0, 0), 0);
    }

    private static void promise10SixUses() {
        MarketRings x = line(1, 0);
        for (int i = 0; i < 6; i++) {
            Due.is("number", x.use(0, i + 1, 0, 0, 0), i);
            x.price(i, 0, 10);
        }
        Due.is("six", x.count(3), 6);
        for (int i = 0; i < 6; i++) {
            Due.is("bid of " + i, x.bid(i, 0, 0), 1000 * (i + 1));
        }
    }

    private static MarketRings sixUses() {
        MarketRings x = line(1, 0);
        for (int i = 0; i < 6; i++) {
            x.use(i, i + 1, 0, 0, 0);
        }
        return x;
    }

    private static void promise10ASeventhUse() {
        Twins.refused("use(0, 1, 1, 1, 1) of six", -6, UsesBoundsTest::sixUses, x -> x.use(0, 1, 1, 1, 1));
    }

    private static void promise10KindsBesideThese() {
        Twins.refused("use(-1, 1, 1, 1, 1)", -2, Twins::busy, x -> x.use(-1, 1, 1, 1, 1));
        Twins.refused("use(6, 1, 1, 1, 1)", -2, Twins::busy, x -> x.use(6, 1, 1, 1, 1));
        Twins.refused("use(least, 1, 1, 1, 1)", -2, Twins::busy, x -> x.use(Integer.MIN_VALUE, 1, 1, 1, 1));
        Twins.refused("use(greatest, 1, 1, 1, 1)", -2, Twins::busy, x -> x.use(Integer.MAX_VALUE, 1, 1, 1, 1));
    }

    private static void promise10BaseBelow() {
        Twins.refused("use(0, -1, 1, 1, 1)", -4, Twins::busy, x -> x.use(0, -1, 1, 1, 1));
    }

    private static void promise10MoreBelow() {
        Twins.refused("use(0, 1, -1, 1, 1)", -4, Twins::busy, x -> x.use(0, 1, -1, 1, 1));
    }

    private static void promise10CostBelow() {
        Twins.refused("use(0, 1, 1, -1, 1)", -4, Twins::busy, x -> x.use(0, 1, 1, -1, 1));
    }

    private static void promise10FareBelow() {
        Twins.refused("use(0, 1, 1, 1, -1)", -4, Twins::busy, x -> x.use(0, 1, 1, 1, -1));
        Twins.refused("use(0, 1, 1, 1, least)", -4, Twins::busy, x -> x.use(0, 1, 1, 1, Integer.MIN_VALUE));
    }

    private static void promise10BaseAbove() {
        Twins.refused("use(0, 100, 1, 1, 1)", -6, Twins::busy, x -> x.use(0, 100, 1, 1, 1));
    }

    private static void promise10MoreAbove() {
        Twins.refused("use(0, 1, 100, 1, 1)", -6, Twins::busy, x -> x.use(0, 1, 100, 1, 1));
    }

    private static void promise10CostAbove() {
        Twins.refused("use(0, 1, 1, 10000, 1)", -6, Twins::busy, x -> x.use(0, 1, 1, 10000, 1));
    }

    private static void promise10FareAbove() {
        Twins.refused("use(0, 1, 1, 1, 100)", -6, Twins::busy, x -> x.use(0, 1, 1, 1, 100));
        Twins.refused("use(0, 1, 1, 1, greatest)", -6, Twins::busy, x -> x.use(0, 1, 1, 1, Integer.MAX_VALUE));
    }

    private static void promise10KindsComeFirst() {
        Twins.refused("use(6, -1, 1, 1, 1)", -2, Twins::busy, x -> x.use(6, -1, 1, 1, 1));
        Twins.refused("use(6, 1, 1, 10000, 1)", -2, Twins::busy, x -> x.use(6, 1, 1, 10000, 1));
        Twins.refused("use(-1, 1, 1, 1, 1) of six", -2, UsesBoundsTest::sixUses, x -> x.use(-1, 1, 1, 1, 1));
    }

    private static void promise10BelowComesBeforeAbove() {
        Twins.refused("use(0, 100, 1, 1, -1)", -4, Twins::busy, x -> x.use(0, 100, 1, 1, -1));
        Twins.refused("use(0, -1, 1, 1, 100)", -4, Twins::busy, x -> x.use(0, -1, 1, 1, 100));
        Twins.refused("use(0, 1, 100, -1, 1)", -4, Twins::busy, x -> x.use(0, 1, 100, -1, 1));
        Twins.refused("use(0, 1, -1, 10000, 1)", -4, Twins::busy, x -> x.use(0, 1, -1, 10000, 1));
    }

    private static void promise10BelowComesBeforeRoom() {
        Twins.refused("use(0, 1, 1, 1, -1) of six", -4, UsesBoundsTest::sixUses, x -> x.use(0, 1, 1, 1, -1));
    }

    private static void promise10YieldGrowsWithTheSoil() {
        MarketRings x = Due.land("0123456789".substring(0, 8));
        x.market(0);
        x.use(0, 2, 3, 0, 0);
        x.price(0, 0, 1);
        for (int soil = 0; soil < 8; soil++) {
            Due.is("soil " + soil, x.bid(0, 10 * soil, 0), 100 * (2 + 3 * soil));
        }
    }

    // Promise 11: years.

    /** A turn at market 0 that yields 1 and is paid 100. */
    private static MarketRings turn(int... years) {
        MarketRings x = line(1, 0);
        x.use(3, 1, 0, 0, 0);
        x.price(0, 0, 100);
        for (int year : years) {
            x.year(0, year);
        }
        return x;
    }

    private static void promise11TheLeastAndTheGreatestYear() {
        MarketRings x = turn();
        Due.are("-99", new long[] {x.year(0, -99), x.bid(0, 0, 0)}, 1, 100);
        MarketRings y = turn();
        Due.are("99", new long[] {y.year(0, 99), y.bid(0, 0, 0)}, 1, 19900);
    }

    private static void promise11Below() {
        Twins.refused("year(1, -100)", -4, Twins::busy, x -> x.year(1, -100));
        Twins.refused("year(1, least)", -4, Twins::busy, x -> x.year(1, Integer.MIN_VALUE));
    }

    private static void promise11Above() {
        Twins.refused("year(1, 100)", -6, Twins::busy, x -> x.year(1, 100));
        Twins.refused("year(1, greatest)", -6, Twins::busy, x -> x.year(1, Integer.MAX_VALUE));
    }

    private static void promise11SixYears() {
        MarketRings x = turn(6, 6, 6, 6, 6);
        Due.is("the sixth", x.year(0, 12), 6);
        Due.is("their mean", x.bid(0, 0, 0), 10700);
    }

    private static void promise11ASeventhYear() {
        Twins.refused("year(0, 1) of six", -6, () -> turn(1, 2, 3, 4, 5, 6), x -> x.year(0, 1));
    }

    private static void promise11BelowComesBeforeRoom() {
        Twins.refused("year(0, -100) of six", -4, () -> turn(1, 2, 3, 4, 5, 6), x -> x.year(0, -100));
    }

    private static void promise11ItIsNone() {
        Twins.refused("year(0, 1)", -3, Twins::busy, x -> x.year(0, 1));
        for (int use = 0; use < 6; use++) {
            int kind = use;
            if (kind != 3) {
                Twins.refused("year of kind " + kind, -3, UsesBoundsTest::sixUses, x -> x.year(kind, 1));
            }
        }
    }

    private static void promise11NoSuchUse() {
        Twins.refused("year(2, 1)", -1, Twins::busy, x -> x.year(2, 1));
        Twins.refused("year(-1, 1)", -1, Twins::busy, x -> x.year(-1, 1));
        Twins.refused("year(6, 1) of six", -1, UsesBoundsTest::sixUses, x -> x.year(6, 1));
        Twins.refused("year(greatest, 1)", -1, Twins::busy, x -> x.year(Integer.MAX_VALUE, 1));
    }

    private static void promise11NoUseComesFirst() {
        Twins.refused("year(2, 100)", -1, Twins::busy, x -> x.year(2, 100));
        Twins.refused("year(2, -100)", -1, Twins::busy, x -> x.year(2, -100));
    }

    private static void promise11NoneComesBeforeNumbers() {
        Twins.refused("year(0, 100)", -3, Twins::busy, x -> x.year(0, 100));
        Twins.refused("year(0, -100)", -3, Twins::busy, x -> x.year(0, -100));
    }

    private static void promise11WithoutYears() {
        Due.is("the price alone", turn().bid(0, 0, 0), 10000);
    }

    private static void promise11TheMeanIsCutToward0() {
        Due.is("3 by 2", turn(1, 2).bid(0, 0, 0), 10100);
        Due.is("-3 by 2", turn(-1, -2).bid(0, 0, 0), 9900);
        Due.is("-1 by 2", turn(-1, 0).bid(0, 0, 0), 10000);
        Due.is("5 by 3", turn(1, 1, 3).bid(0, 0, 0), 10100);
        Due.is("-5 by 6", turn(0, 0, -5, 0, 0, 0).bid(0, 0, 0), 10000);
        Due.is("-6 by 6", turn(0, 0, -6, 0, 0, 0).bid(0, 0, 0), 9900);
    }

    private static void promise11YearsOfOneUseAlone() {
        MarketRings x = turn(50);
        x.use(3, 1, 0, 0, 0);
        x.price(1, 0, 100);
        Due.is("the other one", x.bid(1, 0, 0), 10000);
        Due.is("its first", x.year(1, 20), 1);
        Due.are("both", new long[] {x.bid(0, 0, 0), x.bid(1, 0, 0)}, 15000, 12000);
    }

    private static void promise11AtEachMarket() {
        MarketRings x = Due.land("00");
        x.market(0);
        x.market(10);
        x.use(3, 1, 0, 0, 0);
        x.price(0, 1, 5);
        x.year(0, 7);
        Due.are("bids", new long[] {x.bid(0, 0, 0), x.bid(0, 0, 1)}, 700, 1200);
    }

    // Promise 12: prices.

    private static void promise12TheLeastAndTheGreatestPrice() {
        MarketRings x = line(1, 0);
        x.use(0, 1, 0, 0, 0);
        Due.is("0 at first", x.price(0, 0, 0), 0);
        Due.are("999", new long[] {x.price(0, 0, 999), x.bid(0, 0, 0)}, 0, 99900);
        Due.are("0", new long[] {x.price(0, 0, 0), x.bid(0, 0, 0)}, 999, 0);
    }

    private static void promise12Below() {
        Twins.refused("price(0, 0, -1)", -4, Twins::busy, x -> x.price(0, 0, -1));
        Twins.refused("price(0, 0, least)", -4, Twins::busy, x -> x.price(0, 0, Integer.MIN_VALUE));
    }

    private static void promise12Above() {
        Twins.refused("price(0, 0, 1000)", -6, Twins::busy, x -> x.price(0, 0, 1000));
        Twins.refused("price(0, 0, greatest)", -6, Twins::busy, x -> x.price(0, 0, Integer.MAX_VALUE));
    }

    private static void promise12NoSuchUse() {
        Twins.refused("price(2, 0, 1)", -1, Twins::busy, x -> x.price(2, 0, 1));
        Twins.refused("price(-1, 0, 1)", -1, Twins::busy, x -> x.price(-1, 0, 1));
        Twins.refused("price(6, 0, 1)", -1, UsesBoundsTest::sixUses, x -> x.price(6, 0, 1));
    }

    private static void promise12NoSuchMarket() {
        Twins.refused("price(0, 2, 1)", -1, Twins::busy, x -> x.price(0, 2, 1));
        Twins.refused("price(0, 3, 1)", -1, Twins::busy, x -> x.price(0, 3, 1));
        Twins.refused("price(0, -1, 1)", -1, Twins::busy, x -> x.price(0, -1, 1));
    }

    private static void promise12NeitherIsCountedOnce() {
        Twins.refused("price(2, 2, 1)", -1, Twins::busy, x -> x.price(2, 2, 1));
    }

    private static void promise12NoneComesBeforeNumbers() {
        Twins.refused("price(2, 0, -1)", -1, Twins::busy, x -> x.price(2, 0, -1));
        Twins.refused("price(0, 2, 1000)", -1, Twins::busy, x -> x.price(0, 2, 1000));
    }

    private static void promise12EachUseAtEachMarket() {
        MarketRings x = line(3, 0);
        x.market(10);
        x.market(20);
        for (int i = 0; i < 6; i++) {
            x.use(0, 1, 0, 0, 0);
        }
        for (int i = 0; i < 18; i++) {
            Due.is("0 at first", x.price(i / 3, i % 3, 100 + i), 0);
        }
        for (int i = 0; i < 18; i++) {
            Due.is("its own", x.price(i / 3, i % 3, 0), 100 + i);
        }
    }

    // Promise 13: taxes.

    private static void promise13TheLeastAndTheGreatestTax() {
        MarketRings x = line(1, 0);
        x.use(0, 1, 0, 0, 0);
        Due.is("0 at first", x.tax(0, 0), 0);
        Due.are("9999", new long[] {x.tax(0, 9999), x.bid(0, 0, 0)}, 0, -999900);
        Due.are("0", new long[] {x.tax(0, 0), x.bid(0, 0, 0)}, 9999, 0);
    }

    private static void promise13TheLeastAndTheGreatestRentTax() {
        MarketRings x = line(1, 0);
        x.use(0, 1, 0, 0, 0);
        x.price(0, 0, 1);
        Due.are("0 at first", new long[] {x.tax(-1, 0), x.rent(0)}, 0, 100);
        Due.are("100", new long[] {x.tax(-1, 100), x.rent(0), x.bid(0, 0, 0), x.goes(0, 0)}, 0, 0, 100, 0);
        Due.are("0", new long[] {x.tax(-1, 0), x.rent(0)}, 100, 100);
    }

    private static void promise13Below() {
        Twins.refused("tax(0, -1)", -4, Twins::busy, x -> x.tax(0, -1));
        Twins.refused("tax(0, least)", -4, Twins::busy, x -> x.tax(0, Integer.MIN_VALUE));
        Twins.refused("tax(-1, -1)", -4, Twins::busy, x -> x.tax(-1, -1));
    }

    private static void promise13Above() {
        Twins.refused("tax(0, 10000)", -6, Twins::busy, x -> x.tax(0, 10000));
        Twins.refused("tax(0, greatest)", -6, Twins::busy, x -> x.tax(0, Integer.MAX_VALUE));
        Twins.refused("tax(-1, 101)", -6, Twins::busy, x -> x.tax(-1, 101));
        Twins.refused("tax(-1, 9999)", -6, Twins::busy, x -> x.tax(-1, 9999));
    }

    private static void promise13NoSuchUse() {
        Twins.refused("tax(2, 1)", -1, Twins::busy, x -> x.tax(2, 1));
        Twins.refused("tax(-2, 1)", -1, Twins::busy, x -> x.tax(-2, 1));
        Twins.refused("tax(6, 1) of six", -1, UsesBoundsTest::sixUses, x -> x.tax(6, 1));
        Twins.refused("tax(least, 1)", -1, Twins::busy, x -> x.tax(Integer.MIN_VALUE, 1));
    }

    private static void promise13NoUseComesFirst() {
        Twins.refused("tax(2, -1)", -1, Twins::busy, x -> x.tax(2, -1));
        Twins.refused("tax(-2, 10000)", -1, Twins::busy, x -> x.tax(-2, 10000));
    }

    private static void promise13ATaxOfEachUse() {
        MarketRings x = sixUses();
        for (int use = 0; use < 6; use++) {
            Due.is("0 at first", x.tax(use, 10 + use), 0);
        }
        Due.is("the rent tax is another", x.tax(-1, 5), 0);
        for (int use = 0; use < 6; use++) {
            Due.is("its own", x.tax(use, 0), 10 + use);
        }
    }

    // Promise 14: bids.

    private static void promise14NoSuchUse() {
        Twins.refusedLong("bid(2, 0, 0)", -1, Twins::busy, x -> x.bid(2, 0, 0));
        Twins.refusedLong("bid(-1, 0, 0)", -1, Twins::busy, x -> x.bid(-1, 0, 0));
        Twins.refusedLong("bid(6, 0, 0) of six", -1, UsesBoundsTest::sixUses, x -> x.bid(6, 0, 0));
    }

    private static void promise14NoSuchAcre() {
        Twins.refusedLong("bid(0, 20, 0)", -1, Twins::busy, x -> x.bid(0, 20, 0));
        Twins.refusedLong("bid(0, 2, 0)", -1, Twins::busy, x -> x.bid(0, 2, 0));
        Twins.refusedLong("bid(0, -1, 0)", -1, Twins::busy, x -> x.bid(0, -1, 0));
    }

    private static void promise14NoSuchMarket() {
        Twins.refusedLong("bid(0, 0, 2)", -1, Twins::busy, x -> x.bid(0, 0, 2));
        Twins.refusedLong("bid(0, 0, 3)", -1, Twins::busy, x -> x.bid(0, 0, 3));
        Twins.refusedLong("bid(0, 0, -1)", -1, Twins::busy, x -> x.bid(0, 0, -1));
    }

    private static void promise14AllThreeAreCountedOnce() {
        Twins.refusedLong("bid(9, 99, 9)", -1, Twins::busy, x -> x.bid(9, 99, 9));
    }

    private static void promise14FreshUntil60() {
        MarketRings x = line(2, 0);
        x.use(2, 1, 0, 0, 1);
        x.price(0, 0, 1);
        x.step(0, 60);
        Due.are("60", new long[] {x.bid(0, 10, 0), x.goes(10, 0)}, 40, 0);
        x.step(0, 61);
        Due.are("61", new long[] {x.bid(0, 10, 0), x.goes(10, 0), x.way(10, 0)}, 0, -9, 61);
        x.step(0, 59);
        Due.is("59", x.bid(0, 10, 0), 41);
    }

    private static void promise14FreshTooFarIsNotBelow0() {
        MarketRings x = line(2, 0);
        x.use(2, 1, 0, 5, 1);
        x.step(0, 60);
        Due.is("60", x.bid(0, 10, 0), -560);
        x.step(0, 61);
        Due.is("61", x.bid(0, 10, 0), 0);
    }

    private static void promise14FreshByTheWayWithTolls() {
        MarketRings x = line(2, 0);
        x.use(2, 1, 0, 0, 0);
        x.price(0, 0, 1);
        x.toll(0, 50);
        Due.is("10 and 50", x.bid(0, 10, 0), 100);
        x.toll(0, 51);
        Due.is("10 and 51", x.bid(0, 10, 0), 0);
        x.road(0, 10, 1);
        Due.is("6 and 51", x.bid(0, 10, 0), 100);
    }

    private static void promise14WalkingWithHalfTheFareCut() {
        MarketRings x = line(2, 0);
        x.use(1, 1, 0, 0, 0);
        x.use(1, 1, 0, 0, 1);
        x.use(1, 1, 0, 0, 2);
        x.use(1, 1, 0, 0, 3);
        x.use(1, 1, 0, 0, 99);
        Due.are("0, 0, 1, 1, 49", new long[] {x.bid(0, 10, 0), x.bid(1, 10, 0), x.bid(2, 10, 0), x.bid(3, 10, 0),
            x.bid(4, 10, 0)}, 0, 0, -10, -10, -490);
    }

    private static void promise14WalkingStepsAre10() {
        MarketRings x = line(3, 0);
        x.use(1, 1, 0, 0, 2);
        x.step(0, 99);
        Due.is("told otherwise", x.bid(0, 20, 0), -20);
        x.step(0, 1);
        Due.is("told less", x.bid(0, 20, 0), -20);
        x.road(20, 10, 3);
        x.road(10, 0, 2);
        Due.is("without roads", x.bid(0, 20, 0), -20);
    }

    private static void promise14WalkingPaysTolls() {
        MarketRings x = line(3, 0);
        x.use(1, 1, 0, 0, 2);
        x.toll(0, 5);
        x.toll(10, 7);
        x.toll(20, 99);
        Due.is("those gone into", x.bid(0, 20, 0), -32);
    }

    private static void promise14WalkingGoesItsOwnLeastWay() {
        MarketRings x = Due.land("00/00");
        x.market(11);
        x.use(1, 1, 0, 0, 2);
        x.toll(10, 3);
        x.toll(1, 9);
        x.road(0, 1, 2);
        x.road(1, 11, 2);
        Due.are("by the lesser toll, not by rail", new long[] {x.bid(0, 0, 0), x.way(0, 11)}, -23, 15);
    }

    private static void promise14OneWalksAndOneGoesByRoadsToEachMarket() {
        MarketRings x = Due.land("000");
        x.market(0);
        x.market(10);
        x.market(20);
        x.use(0, 1, 0, 0, 1);
        x.use(1, 1, 0, 0, 2);
        x.road(20, 10, 2);
        x.road(10, 0, 1);
        Due.are("by roads from 20", new long[] {x.bid(0, 20, 0), x.bid(0, 20, 1), x.bid(0, 20, 2)}, -9, -3, 0);
        Due.are("on foot from 20", new long[] {x.bid(1, 20, 0), x.bid(1, 20, 1), x.bid(1, 20, 2)}, -20, -10, 0);
        Due.are("from 10", new long[] {x.bid(0, 10, 0), x.bid(1, 10, 0), x.bid(0, 10, 2), x.bid(1, 10, 2)}, -6, -10, -3, -10);
        Due.are("from 0", new long[] {x.bid(0, 0, 2), x.bid(1, 0, 2), x.bid(0, 0, 1), x.bid(1, 0, 1)}, -9, -20, -6, -10);
    }

    private static void promise14WalkingIsNotBoundBy60() {
        MarketRings x = line(8, 0);
        x.use(1, 1, 0, 0, 2);
        x.price(0, 0, 1);
        Due.is("70", x.bid(0, 70, 0), 30);
    }

    private static void promise14HouseYieldsItsBaseOnEverySoil() {
        MarketRings x = Due.land("09");
        x.market(0);
        x.use(4, 3, 99, 2, 1);
        x.price(0, 0, 8);
        Due.are("bids", new long[] {x.bid(0, 0, 0), x.bid(0, 10, 0)}, 100 * (24 - 2), 100 * (24 - 2) - 3 * 10);
    }

    private static void promise14WastePays0() {
        MarketRings x = line(2, 9);
        x.use(5, 99, 99, 9999, 99);
        x.tax(0, 9999);
        Due.are("without a price", new long[] {x.bid(0, 0, 0), x.bid(0, 10, 0)}, 0, 0);
        x.price(0, 0, 999);
        Due.are("with one", new long[] {x.bid(0, 0, 0), x.bid(0, 10, 0), x.goes(0, 0)}, 0, 0, -9);
    }

    private static void promise14ATurnsPriceMayBeBelow0() {
        MarketRings x = line(2, 0);
        x.use(3, 2, 0, 1, 3);
        x.price(0, 0, 10);
        x.year(0, -99);
        Due.are("-89", new long[] {x.bid(0, 0, 0), x.bid(0, 10, 0)}, 100 * (-178 - 1), 100 * (-178 - 1) - 60);
    }

    private static void promise14TheGreatestBidOfAll() {
        MarketRings x = line(1, 9);
        x.use(3, 99, 99, 0, 99);
        x.price(0, 0, 999);
        x.year(0, 99);
        Due.is("bid", x.bid(0, 0, 0), 108702000);
    }

    private static void promise14TheLeastBidOfAll() {
        MarketRings x = Due.land("99999999/99999999/99999999/99999999/99999999/99999999");
        x.market(75);
        x.use(3, 99, 99, 9999, 99);
        x.year(0, -99);
        x.tax(0, 9999);
        x.step(0, 99);
        for (int xy = 0; xy < 80; xy++) {
            if (xy % 10 < 6) {
                x.toll(xy, 99);
            }
        }
        Due.is("bid", x.bid(0, 0, 0), 100L * (-990 * 99 - 9999 - 9999) - 99L * 990 * 2376);
    }

    private static void promise14ABidForAHeldAcre() {
        MarketRings x = line(2, 0);
        x.use(0, 1, 0, 0, 1);
        x.price(0, 0, 9);
        x.held(10, true);
        Due.is("is told all the same", x.bid(0, 10, 0), 890);
    }

    private static void promise14TheTollOfTheAcreItselfIsNotPaid() {
        MarketRings x = line(2, 0);
        x.use(0, 1, 0, 0, 1);
        x.toll(10, 50);
        Due.is("10", x.bid(0, 10, 0), -10);
        x.toll(0, 7);
        Due.are("that of the market is", new long[] {x.bid(0, 10, 0), x.bid(0, 0, 0)}, -17, 0);
    }

    private static void promise14RoadsAreGoneTowardTheMarket() {
        MarketRings x = line(2, 0);
        x.use(0, 1, 0, 0, 1);
        x.road(10, 0, 3);
        Due.is("down the river", x.bid(0, 10, 0), -2);
        x.road(0, 10, 3);
        Due.is("up the river", x.bid(0, 10, 0), -10);
    }

    // Promise 15: to whom an acre goes.

    private static void promise15ABidAbove0() {
        MarketRings x = line(2, 0);
        x.step(0, 1);
        x.use(0, 1, 0, 0, 99);
        x.price(0, 0, 1);
        Due.are("1", new long[] {x.bid(0, 10, 0), x.goes(10, 0), x.goes(10, 1), x.rent(10)}, 1, 0, 0, 1);
        x.step(0, 2);
        Due.are("below 0", new long[] {x.bid(0, 10, 0), x.goes(10, 0), x.goes(10, 1)}, -98, -9, -9);
    }

    private static void promise15ABidOf0IsNotAbove0() {
        MarketRings x = line(1, 0);
        x.use(0, 1, 0, 5, 0);
        x.price(0, 0, 5);
        Due.are("0", new long[] {x.bid(0, 0, 0), x.goes(0, 0), x.goes(0, 1), x.count(6)}, 0, -9, -9, 1);
    }

    private static void promise15TheGreatestOfThem() {
        MarketRings x = line(1, 0);
        x.use(0, 1, 0, 0, 0);
        x.use(0, 1, 0, 0, 0);
        x.use(0, 1, 0, 0, 0);
        x.price(0, 0, 5);
        x.price(1, 0, 7);
        x.price(2, 0, 6);
        Due.is("7", x.goes(0, 0), 1);
        x.price(2, 0, 8);
        Due.is("8", x.goes(0, 0), 2);
    }

    private static void promise15OfAlikeOnesTheLeastUse() {
        MarketRings x = line(1, 0);
        x.use(0, 1, 0, 0, 0);
        x.use(0, 1, 0, 0, 0);
        x.price(0, 0, 5);
        x.price(1, 0, 5);
        Due.is("0", x.goes(0, 0), 0);
        x.price(1, 0, 6);
        Due.is("1", x.goes(0, 0), 1);
    }

    private static void promise15OfAlikeOnesTheLeastMarket() {
        MarketRings x = line(2, 0);
        x.market(10);
        x.use(0, 1, 0, 0, 0);
        x.price(0, 0, 5);
        x.price(0, 1, 5);
        Due.are("0", new long[] {x.goes(0, 1), x.goes(10, 1)}, 0, 0);
        x.price(0, 1, 6);
        Due.are("1", new long[] {x.goes(0, 1), x.goes(10, 1)}, 1, 1);
    }

    private static void promise15TheLeastUseBeforeTheLeastMarket() {
        MarketRings x = line(2, 0);
        x.market(10);
        x.use(0, 1, 0, 0, 0);
        x.use(0, 1, 0, 0, 0);
        x.price(0, 1, 5);
        x.price(1, 0, 5);
        Due.are("use 0 at market 1", new long[] {x.goes(0, 0), x.goes(0, 1)}, 0, 1);
    }

    private static void promise15HeldAcresGoToNone() {
        MarketRings x = line(2, 0);
        x.use(0, 1, 0, 0, 0);
        x.price(0, 0, 5);
        x.held(10, true);
        Due.are("none", new long[] {x.goes(10, 0), x.goes(10, 1), x.goes(0, 0)}, -9, -9, 0);
        x.held(10, false);
        Due.are("not held any more", new long[] {x.goes(10, 0), x.goes(10, 1)}, 0, 0);
    }

    private static void promise15WhatBesideThese() {
        Twins.refused("goes(0, -1)", -2, Twins::busy, x -> x.goes(0, -1));
        Twins.refused("goes(0, 2)", -2, Twins::busy, x -> x.goes(0, 2));
        Twins.refused("goes(1, 2), held", -2, Twins::busy, x -> x.goes(1, 2));
        Twins.refused("goes(0, greatest)", -2, Twins::busy, x -> x.goes(0, Integer.MAX_VALUE));
    }

    private static void promise15NoSuchAcre() {
        Twins.refused("goes(20, 0)", -1, Twins::busy, x -> x.goes(20, 0));
        Twins.refused("goes(2, 1)", -1, Twins::busy, x -> x.goes(2, 1));
        Twins.refused("goes(-1, 0)", -1, Twins::busy, x -> x.goes(-1, 0));
    }

    private static void promise15NoAcreComesFirst() {
        Twins.refused("goes(20, 2)", -1, Twins::busy, x -> x.goes(20, 2));
    }

    private static void promise15TheLastUseAtTheLastMarket() {
        MarketRings x = line(3, 0);
        x.market(10);
        x.market(20);
        for (int i = 0; i < 6; i++) {
            x.use(0, 1, 0, 0, 0);
        }
        x.price(5, 2, 1);
        Due.are("5 and 2", new long[] {x.goes(0, 0), x.goes(0, 1)}, 5, 2);
    }

    // Promise 16: rents.

    private static void promise16TheRentTaxIsCut() {
        MarketRings x = line(2, 0);
        x.step(0, 1);
        x.use(0, 1, 0, 0, 1);
        x.price(0, 0, 1);
        Due.is("99", x.rent(10), 99);
        x.tax(-1, 1);
        Due.are("1 of 100, 0 of 99", new long[] {x.rent(0), x.rent(10), x.rent(-1)}, 99, 99, 198);
        x.tax(-1, 2);
        Due.are("2 of 100, 1 of 99", new long[] {x.rent(0), x.rent(10), x.rent(-1)}, 98, 98, 196);
        x.tax(-1, 99);
        Due.are("99 of 100, 98 of 99", new long[] {x.rent(0), x.rent(10), x.rent(-1)}, 1, 1, 2);
        x.tax(-1, 100);
        Due.are("all", new long[] {x.rent(0), x.rent(10), x.rent(-1)}, 0, 0, 0);
    }

    private static void promise16EachAcresTaxIsCutByItself() {
        MarketRings x = Due.land("000");
        x.market(10);
        x.step(0, 1);
        x.use(0, 1, 0, 0, 1);
        x.price(0, 0, 1);
        x.tax(-1, 50);
        // 49 of 99 each, not 149 of 298.
        Due.are("rents", new long[] {x.rent(0), x.rent(10), x.rent(20), x.rent(-1)}, 50, 50, 50, 150);
    }

    private static void promise16OfAnAcreThatGoesToNone() {
        MarketRings x = line(2, 0);
        x.use(0, 1, 0, 9, 0);
        Due.are("waste", new long[] {x.rent(0), x.rent(-1)}, 0, 0);
        x.price(0, 0, 10);
        x.held(10, true);
        Due.are("held", new long[] {x.rent(0), x.rent(10), x.rent(-1)}, 100, 0, 100);
    }

    private static void promise16NoSuchAcre() {
        Twins.refusedLong("rent(20)", -1, Twins::busy, x -> x.rent(20));
        Twins.refusedLong("rent(2)", -1, Twins::busy, x -> x.rent(2));
        Twins.refusedLong("rent(-2)", -1, Twins::busy, x -> x.rent(-2));
        Twins.refusedLong("rent(least)", -1, Twins::busy, x -> x.rent(Integer.MIN_VALUE));
        Twins.refusedLong("rent(greatest)", -1, Twins::busy, x -> x.rent(Integer.MAX_VALUE));
    }

    private static void promise16AllTogetherWithoutWrappingAround() {
        MarketRings x = Due.land("99999999/99999999/99999999/99999999/99999999/99999999");
        x.market(0);
        x.use(3, 99, 99, 0, 0);
        x.price(0, 0, 999);
        x.year(0, 99);
        Due.are("rents", new long[] {x.rent(75), x.rent(-1)}, 108702000L, 48 * 108702000L);
        x.tax(-1, 99);
        Due.are("99 hundredths less", new long[] {x.rent(75), x.rent(-1)}, 1087020, 48 * 1087020L);
    }

    // Promise 17: what comes.

    private static void promise17NothingComesYet() {
        MarketRings x = line(1, 0);
        x.use(0, 9, 0, 0, 0);
        Due.is("0", x.comes(0, 0), 0);
        x.price(0, 0, 1);
        Due.is("9", x.comes(0, 0), 9);
        x.held(0, true);
        Due.is("not from a held one", x.comes(0, 0), 0);
    }

    private static void promise17AllYieldsOfTheGreatestLand() {
        MarketRings x = Due.land("99999999/99999999/99999999/99999999/99999999/99999999");
        x.market(0);
        x.use(0, 99, 99, 0, 0);
        x.price(0, 0, 1);
        Due.is("48 times 990", x.comes(0, 0), 47520);
    }

    private static void promise17OfOneUseToOneMarket() {
        MarketRings x = line(3, 1);
        x.market(20);
        x.use(0, 1, 0, 0, 1);
        x.use(0, 2, 1, 0, 0);
        x.price(0, 0, 5);
        x.price(0, 1, 5);
        Due.are("10 is as far from both", new long[] {x.comes(0, 0), x.comes(0, 1), x.comes(1, 0), x.comes(1, 1)}, 2, 1, 0, 0);
        x.price(1, 1, 9);
        Due.are("all to one", new long[] {x.comes(0, 0), x.comes(0, 1), x.comes(1, 0), x.comes(1, 1)}, 0, 0, 0, 9);
    }

    private static void promise17OfEachUseToEachMarket() {
        for (int i = 0; i < 18; i++) {
            MarketRings x = line(3, 1);
            x.market(10);
            x.market(20);
            for (int use = 0; use < 6; use++) {
                x.use(0, 1 + use, 10 + use, 0, 0);
            }
            x.price(i / 3, i % 3, 9);
            Due.is("three times the yield", x.comes(i / 3, i % 3), 3 * (11 + 2 * (i / 3)));
            Due.is("to no other market", x.comes(i / 3, (i + 1) % 3), 0);
        }
    }

    private static void promise17NoSuchUseOrMarket() {
        Twins.refused("comes(2, 0)", -1, Twins::busy, x -> x.comes(2, 0));
        Twins.refused("comes(-1, 0)", -1, Twins::busy, x -> x.comes(-1, 0));
        Twins.refused("comes(0, 2)", -1, Twins::busy, x -> x.comes(0, 2));
        Twins.refused("comes(0, 3)", -1, Twins::busy, x -> x.comes(0, 3));
        Twins.refused("comes(0, -1)", -1, Twins::busy, x -> x.comes(0, -1));
        Twins.refused("comes(6, 3)", -1, Twins::busy, x -> x.comes(6, 3));
    }

    // Promise 24: how far out.

    private static void promise24NoneGoesToIt() {
        MarketRings x = line(2, 0);
        x.use(0, 1, 0, 0, 1);
        x.use(5, 1, 0, 0, 1);
        Due.are("-9", new long[] {x.out(0), x.out(1)}, -9, -9);
        x.price(0, 0, 1);
        Due.is("10", x.out(0), 10);
        x.held(0, true);
        x.held(10, true);
        Due.is("none but held ones", x.out(0), -9);
    }

    private static void promise24AWayOf0() {
        MarketRings x = line(2, 0);
        x.use(0, 1, 0, 0, 10);
        x.price(0, 0, 1);
        Due.is("the market's own acre alone", x.out(0), 0);
    }

    private static void promise24TheGreatestOfThem() {
        MarketRings x = line(4, 0);
        x.use(0, 1, 0, 0, 1);
        x.price(0, 0, 9);
        Due.is("30", x.out(0), 30);
        x.held(30, true);
        Due.is("20", x.out(0), 20);
        x.road(30, 20, 1);
        x.held(30, false);
        Due.is("26", x.out(0), 26);
    }

    private static void promise24ToTheMarketToWhichItGoes() {
        MarketRings x = line(3, 0);
        x.market(20);
        x.use(0, 1, 0, 0, 0);
        x.price(0, 1, 9);
        Due.is("from the first acre to the last", x.out(0), 20);
        x.held(0, true);
        Due.is("and not to the nearest", x.out(0), 10);
    }

    private static void promise24NoSuchUse() {
        Twins.refused("out(2)", -1, Twins::busy, x -> x.out(2));
        Twins.refused("out(-1)", -1, Twins::busy, x -> x.out(-1));
        Twins.refused("out(6) of six", -1, UsesBoundsTest::sixUses, x -> x.out(6));
        Twins.refused("out(greatest)", -1, Twins::busy, x -> x.out(Integer.MAX_VALUE));
    }

    // Promise 25: borders.

    private static void promise25NoneYet() {
        Due.is("of one acre", new MarketRings().borders(), 0);
        MarketRings x = line(4, 0);
        Due.is("of waste", x.borders(), 0);
        x.use(0, 1, 0, 0, 0);
        x.price(0, 0, 1);
        Due.is("of one market", x.borders(), 0);
    }

    private static void promise25PairsToTheSideAndBelow() {
        MarketRings x = Due.land("00/00");
        x.market(0);
        x.market(11);
        x.use(0, 1, 0, 0, 6);
        x.price(0, 0, 9);
        x.price(0, 1, 9);
        // Acres 10 and 1 lie as far from both, so they go to market 0.
        Due.is("two", x.borders(), 2);
        x.price(0, 1, 10);
        Due.is("two, the other way round", x.borders(), 2);
    }

    private static void promise25AcresByACornerAreNotBeside() {
        MarketRings x = Due.land("00/00");
        x.market(0);
        x.market(11);
        x.use(0, 1, 0, 0, 1);
        x.price(0, 0, 9);
        x.price(0, 1, 9);
        x.held(10, true);
        x.held(1, true);
        Due.is("none", x.borders(), 0);
    }

    private static void promise25ALinesEndIsNotBesideTheNextOnesBeginning() {
        MarketRings x = Due.land("00/00");
        x.market(10);
        x.market(1);
        x.use(0, 1, 0, 0, 99);
        x.price(0, 0, 9);
        x.price(0, 1, 9);
        x.step(0, 99);
        Due.are("each its own", new long[] {x.goes(10, 1), x.goes(1, 1), x.goes(0, 0), x.goes(11, 0)}, 0, 1, -9, -9);
        Due.is("none", x.borders(), 0);
    }

    private static void promise25UnlikeUsesAreNoBorder() {
        MarketRings x = line(2, 0);
        x.use(0, 1, 0, 0, 9);
        x.use(0, 1, 0, 0, 0);
        x.price(0, 0, 3);
        x.price(1, 0, 3);
        x.tax(1, 1);
        Due.are("uses", new long[] {x.goes(0, 0), x.goes(10, 0), x.borders()}, 0, 0, 0);
        x.price(0, 0, 2);
        x.tax(0, 0);
        x.tax(1, 2);
        Due.are("other uses", new long[] {x.goes(0, 0), x.goes(10, 0), x.borders()}, 0, 0, 0);
        x.step(0, 20);
        Due.are("unlike uses", new long[] {x.goes(0, 0), x.goes(10, 0), x.borders()}, 0, 1, 0);
    }

    private static void promise25UnlikeMarketsOfOneUse() {
        MarketRings x = line(2, 0);
        x.market(10);
        x.use(0, 1, 0, 0, 1);
        x.price(0, 0, 9);
        x.price(0, 1, 9);
        Due.is("one", x.borders(), 1);
    }

    private static void promise25WhicheverMarketComesFirst() {
        MarketRings x = Due.land("000");
        x.market(20);
        x.market(10);
        x.market(0);
        x.use(0, 1, 0, 0, 1);
        x.use(0, 1, 0, 0, 1);
        for (int market = 0; market < 3; market++) {
            x.price(1, market, 9);
        }
        Due.are("2, 1, 0", new long[] {x.goes(0, 1), x.goes(10, 1), x.goes(20, 1), x.borders()}, 2, 1, 0, 2);
        x.price(0, 2, 9);
        Due.are("with another use", new long[] {x.goes(0, 0), x.goes(10, 0), x.borders()}, 0, 1, 2);
        x.price(0, 0, 9);
        Due.are("the last acre by the first use", new long[] {x.goes(20, 0), x.goes(20, 1), x.borders()}, 0, 0, 2);
    }

    private static void promise25AsManyAsCanBe() {
        MarketRings x = Due.land("00000000/00000000/00000000/00000000/00000000/00000000");
        x.market(0);
        x.market(5);
        x.use(0, 1, 0, 0, 1);
        x.price(0, 0, 9);
        x.price(0, 1, 9);
        Due.is("between the third and the fourth line", x.borders(), 8);
        MarketRings y = Due.land("00000000/00000000/00000000/00000000/00000000/00000000");
        y.market(0);
        y.market(70);
        y.use(0, 1, 0, 0, 1);
        y.price(0, 0, 9);
        y.price(0, 1, 9);
        Due.is("between the fourth and the fifth column", y.borders(), 6);
    }

    // Promise 30: what falls waste.

    /** Four acres whose bids are 400, 300, 200 and 100. */
    private static MarketRings slope() {
        MarketRings x = line(4, 0);
        x.use(0, 1, 0, 0, 10);
        x.price(0, 0, 4);
        return x;
    }

    private static void promise30TheLeastAndTheGreatestTax() {
        MarketRings x = slope();
        Due.are("0 and 9999", new long[] {x.falls(0, 0), x.falls(0, 9999)}, 0, 4);
    }

    private static void promise30ABidOf0Falls() {
        MarketRings x = slope();
        Due.are("one by one", new long[] {x.falls(0, 1), x.falls(0, 2), x.falls(0, 3), x.falls(0, 4)}, 1, 2, 3, 4);
    }

    private static void promise30InsteadOfTheTaxThereIs() {
        MarketRings x = slope();
        x.tax(0, 2);
        Due.are("of the two that go to it", new long[] {x.falls(0, 0), x.falls(0, 2), x.falls(0, 3), x.falls(0, 4)}, 0, 0, 1, 2);
    }

    private static void promise30NotWhatAnotherTakes() {
        MarketRings x = slope();
        x.use(0, 1, 0, 0, 10);
        x.price(1, 0, 2);
        // 200 and 100 are left for the first two acres.
        Due.are("the last two", new long[] {x.falls(0, 9999), x.falls(1, 9999)}, 2, 0);
    }

    private static void promise30AtAllMarkets() {
        MarketRings x = slope();
        x.market(30);
        Due.is("all", x.falls(0, 4), 4);
        x.price(0, 1, 5);
        // 400 and 300 at market 0, 400 and 500 at market 1.
        Due.are("fewer", new long[] {x.falls(0, 2), x.falls(0, 3), x.falls(0, 4), x.falls(0, 5)}, 0, 1, 3, 4);
    }

    private static void promise30OfEachUseAtEachMarket() {
        for (int use = 0; use < 6; use++) {
            MarketRings x = Due.land("000");
            x.step(0, 99);
            for (int i = 0; i < 6; i++) {
                x.use(0, 1, 0, 0, 9);
            }
            for (int market = 0; market < 3; market++) {
                x.market(10 * market);
                x.price(use, market, 3 + market);
            }
            Due.are("of use " + use, new long[] {x.falls(use, 2), x.falls(use, 3), x.falls(use, 4), x.falls(use, 5)}, 0, 1, 2, 3);
            Due.is("of another one than " + use, x.falls((use + 1) % 6, 9999), 0);
        }
    }

    private static void promise30NothingChanges() {
        Twins.changesNothing("falls(0, 9999)", 4, UsesBoundsTest::slope, x -> x.falls(0, 9999));
        Twins.changesNothing("falls(0, 9999)", 0, Twins::busy, x -> x.falls(0, 9999));
        Twins.changesNothing("falls(0, 0)", 0, Twins::busy, x -> x.falls(0, 0));
    }

    private static void promise30Below() {
        Twins.refused("falls(0, -1)", -4, Twins::busy, x -> x.falls(0, -1));
        Twins.refused("falls(0, least)", -4, Twins::busy, x -> x.falls(0, Integer.MIN_VALUE));
    }

    private static void promise30Above() {
        Twins.refused("falls(0, 10000)", -6, Twins::busy, x -> x.falls(0, 10000));
        Twins.refused("falls(0, greatest)", -6, Twins::busy, x -> x.falls(0, Integer.MAX_VALUE));
    }

    private static void promise30NoSuchUse() {
        Twins.refused("falls(2, 1)", -1, Twins::busy, x -> x.falls(2, 1));
        Twins.refused("falls(-1, 1)", -1, Twins::busy, x -> x.falls(-1, 1));
        Twins.refused("falls(6, 1) of six", -1, UsesBoundsTest::sixUses, x -> x.falls(6, 1));
    }

    private static void promise30NoUseComesFirst() {
        Twins.refused("falls(2, -1)", -1, Twins::busy, x -> x.falls(2, -1));
        Twins.refused("falls(-1, 10000)", -1, Twins::busy, x -> x.falls(-1, 10000));
    }
}
