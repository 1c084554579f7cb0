/** Promises 10 to 17, 24, 25 and 30: uses, prices, taxes, bids, who gets which acre, and what follows. */
public final class UsesTest {
    public static void main(String[] args) {
        promise10Use();
        promise11Year();
        promise12Price();
        promise13Tax();
        promise14BidOfUse();
        promise14BidOfWalking();
        promise14BidOfFresh();
        promise14BidOfTurn();
        promise14BidOfHouseAndWaste();
        promise14Refusals();
        promise15Goes();
        promise15Ties();
        promise16Rent();
        promise17Comes();
        promise24Out();
        promise25Borders();
        promise30Falls();
        Due.end();
    }

    private static void promise10Use() {
        MarketRings x = new MarketRings();
        Due.are("another kind", new long[] {x.use(6, 0, 0, 0, 0), x.use(-1, 0, 0, 0, 0), x.use(6, -1, 0, 0, 0)},
            -2, -2, -2);
        Due.are("below", new long[] {x.use(0, -1, 0, 0, 0), x.use(0, 0, -1, 0, 0), x.use(0, 0, 0, -1, 0),
            x.use(0, 0, 0, 0, -1), x.use(0, 100, 0, 0, -1)}, -4, -4, -4, -4, -4);
        Due.are("above", new long[] {x.use(0, 100, 0, 0, 0), x.use(0, 0, 100, 0, 0), x.use(0, 0, 0, 10000, 0),
            x.use(0, 0, 0, 0, 100)}, -6, -6, -6, -6);
        Due.is("none", x.count(3), 0);
        Due.are("numbers", new long[] {x.use(0, 99, 99, 9999, 99), x.use(1, 0, 0, 0, 0), x.use(2, 0, 0, 0, 0),
            x.use(3, 0, 0, 0, 0), x.use(4, 0, 0, 0, 0), x.use(5, 0, 0, 0, 0)}, 0, 1, 2, 3, 4, 5);
        Due.are("no room", new long[] {x.use(0, 1, 1, 1, 1), x.use(0, 1, -1, 1, 1), x.use(9, 1, 1, 1, 1)}, -6, -4, -2);
        Due.is("six", x.count(3), 6);
    }

    private static void promise11Year() {
        MarketRings x = new MarketRings();
        x.use(3, 1, 0, 0, 0);
        for (int kind = 0; kind <= 5; kind++) {
            if (kind != 3) {
                Due.is("no turn", x.year(x.use(kind, 1, 0, 0, 0), 100), -3);
            }
        }
        Due.are("no use", new long[] {x.year(6, 0), x.year(-1, 200)}, -1, -1);
        Due.are("out of bounds", new long[] {x.year(0, -100), x.year(0, 100)}, -4, -6);
        Due.are("how many", new long[] {x.year(0, -99), x.year(0, 99), x.year(0, 0), x.year(0, 1), x.year(0, 2),
            x.year(0, 3)}, 1, 2, 3, 4, 5, 6);
        Due.are("a seventh", new long[] {x.year(0, 3), x.year(0, -100)}, -6, -4);
    }

    private static void promise12Price() {
        MarketRings x = Due.land("00");
        Due.is("no use", x.price(0, 0, 1), -1);
        x.use(0, 1, 0, 0, 0);
        Due.is("no market", x.price(0, 0, 1), -1);
        x.market(0);
        x.market(10);
        x.use(0, 1, 0, 0, 0);
        Due.are("what it was", new long[] {x.price(0, 0, 999), x.price(0, 1, 5), x.price(1, 0, 6), x.price(1, 1, 7),
            x.price(0, 0, 0), x.price(0, 1, 0), x.price(1, 0, 0), x.price(1, 1, 0), x.price(0, 0, 0)},
            0, 0, 0, 0, 999, 5, 6, 7, 0);
        Due.are("none such", new long[] {x.price(2, 0, 1), x.price(0, 2, 1), x.price(-1, 0, -1), x.price(0, -1, 1000)},
            -1, -1, -1, -1);
        Due.are("out of bounds", new long[] {x.price(0, 0, -1), x.price(0, 0, 1000)}, -4, -6);
        Due.is("nothing changed", x.price(0, 0, 0), 0);
    }

    private static void promise13Tax() {
        MarketRings x = Due.land("0");
        x.market(0);
        Due.is("no use", x.tax(0, 1), -1);
        x.use(0, 1, 0, 0, 0);
        x.price(0, 0, 50);
        Due.are("what it was", new long[] {x.tax(0, 9999), x.tax(0, 30), x.tax(-1, 100), x.tax(-1, 10)}, 0, 9999, 0, 100);
        Due.is("bid", x.bid(0, 0, 0), 2000);
        Due.is("rent", x.rent(0), 1800);
        Due.are("none such", new long[] {x.tax(1, 1), x.tax(-2, -1)}, -1, -1);
        Due.are("out of bounds", new long[] {x.tax(0, -1), x.tax(0, 10000), x.tax(-1, -1), x.tax(-1, 101)},
            -4, -6, -4, -6);
        Due.are("nothing changed", new long[] {x.tax(0, 0), x.tax(-1, 0)}, 30, 10);
    }

    private static void promise14BidOfUse() {
        MarketRings x = Due.land("003");
        x.market(0);
        x.use(0, 5, 2, 10, 3);
        x.price(0, 0, 10);
        x.tax(0, 4);
        // Yield 5 on soil 0, 11 on soil 3.
        Due.are("bids", new long[] {x.bid(0, 0, 0), x.bid(0, 10, 0), x.bid(0, 20, 0)},
            100 * (50 - 14), 100 * (50 - 14) - 3 * 5 * 10, 100 * (110 - 14) - 3 * 11 * 20);
        x.road(20, 10, 2);
        x.toll(0, 6);
        Due.is("by rail, with a toll", x.bid(0, 20, 0), 9600 - 33 * (3 + 10 + 6));
        x.held(20, true);
        Due.is("for a held acre", x.bid(0, 20, 0), 9600 - 33 * 19);
        x.price(0, 0, 0);
        Due.is("below 0", x.bid(0, 20, 0), -1400 - 33 * 19);
        MarketRings y = Due.land("9");
        y.market(0);
        y.use(0, 99, 99, 9999, 99);
        y.price(0, 0, 999);
        Due.is("the greatest", y.bid(0, 0, 0), 100L * (990 * 999 - 9999));
    }

    private static void promise14BidOfWalking() {
        MarketRings x = Due.land("000");
        x.market(0);
        x.use(1, 4, 0, 5, 7);
        x.price(0, 0, 9);
        x.step(0, 50);
        x.step(1, 60);
        x.road(20, 10, 2);
        x.road(10, 0, 1);
        x.toll(10, 8);
        // The steps are 10 each, the fare 3.
        Due.is("on foot", x.bid(0, 20, 0), 100 * (36 - 5) - 3 * 4 * 28);
        Due.is("the way itself", x.way(20, 0), 3 + 8 + 60);
        x.use(1, 4, 0, 5, 1);
        x.price(1, 0, 9);
        Due.is("half of 1 is 0", x.bid(1, 20, 0), 3100);
    }

    private static void promise14BidOfFresh() {
        MarketRings x = Due.land("00000000");
        x.market(0);
        x.use(2, 9, 0, 0, 1);
        x.price(0, 0, 4);
        Due.are("60 and 70", new long[] {x.bid(0, 60, 0), x.bid(0, 70, 0)}, 3600 - 9 * 60, 0);
        Due.are("goes", new long[] {x.goes(60, 0), x.goes(70, 0)}, 0, -9);
        x.toll(30, 1);
        Due.are("61", new long[] {x.bid(0, 60, 0), x.bid(0, 50, 0), x.goes(60, 0)}, 0, 3600 - 9 * 51, -9);
        x.road(70, 60, 3);
        x.road(60, 50, 3);
        Due.are("nearer by river", new long[] {x.bid(0, 70, 0), x.goes(70, 0)}, 3600 - 9 * 55, 0);
        x.price(0, 0, 0);
        Due.are("below 0 but not too far", new long[] {x.bid(0, 70, 0)}, -9 * 55);
    }

    private static void promise14BidOfTurn() {
        MarketRings x = Due.land("1");
        x.market(0);
        x.use(3, 5, 1, 0, 4);
        x.price(0, 0, 2);
        Due.is("without years", x.bid(0, 0, 0), 1200);
        x.year(0, 30);
        Due.is("one", x.bid(0, 0, 0), 600 * 32);
        x.year(0, -9);
        Due.is("two, 21 by 2", x.bid(0, 0, 0), 600 * 12);
        x.year(0, -99);
        Due.is("three, -78 by 3", x.bid(0, 0, 0), 600 * -24);
        x.year(0, 75);
        Due.is("four, -3 by 4 cut toward 0", x.bid(0, 0, 0), 600 * 2);
        x.year(0, -4);
        Due.is("five, -7 by 5 cut toward 0", x.bid(0, 0, 0), 600);
    }

    private static void promise14BidOfHouseAndWaste() {
        MarketRings x = Due.land("09");
        x.market(0);
        x.use(4, 3, 9, 2, 1);
        x.use(5, 9, 9, 9, 9);
        x.price(0, 0, 8);
        x.price(1, 0, 999);
        Due.are("house", new long[] {x.bid(0, 0, 0), x.bid(0, 10, 0)}, 2200, 2200 - 30);
        Due.are("waste", new long[] {x.bid(1, 0, 0), x.bid(1, 10, 0)}, 0, 0);
        x.price(0, 0, 0);
        Due.are("waste gets none", new long[] {x.goes(0, 0), x.comes(1, 0), x.count(6)}, -9, 0, 2);
    }

    private static void promise14Refusals() {
        MarketRings x = Due.land("0");
        x.use(0, 1, 0, 0, 0);
        Due.refuses("no market", x.bid(0, 0, 0), -1);
        x.market(0);
        Due.is("all are", x.bid(0, 0, 0), 0);
        x.use(0, 1, 0, 5, 0);
        Due.is("of a use that is just told", x.bid(1, 0, 0), -500);
        Due.refuses("no use", x.bid(2, 0, 0), -1);
        Due.refuses("no use below", x.bid(-1, 0, 0), -1);
        Due.refuses("no acre", x.bid(0, 1, 0), -1);
        Due.refuses("no market 1", x.bid(0, 0, 1), -1);
        Due.refuses("no market -1", x.bid(0, 0, -1), -1);
        Due.is("counted", x.count(11), 6);
    }

    private static void promise15Goes() {
        MarketRings x = Due.land("0000");
        Due.are("none", new long[] {x.goes(0, 0), x.goes(0, 1)}, -9, -9);
        x.market(0);
        x.market(30);
        x.use(0, 10, 0, 0, 10);
        x.use(0, 1, 0, 0, 0);
        x.price(0, 0, 2);
        x.price(1, 1, 4);
        // Use 0 to market 0: 2000, 1000, 0, -1000; use 1 to market 1: 400.
        Due.are("uses", new long[] {x.goes(0, 0), x.goes(10, 0), x.goes(20, 0), x.goes(30, 0)}, 0, 0, 1, 1);
        Due.are("markets", new long[] {x.goes(0, 1), x.goes(10, 1), x.goes(20, 1), x.goes(30, 1)}, 0, 0, 1, 1);
        x.price(1, 1, 0);
        Due.are("a bid of 0 gets none", new long[] {x.goes(20, 0), x.goes(20, 1), x.goes(30, 0), x.count(6)},
            -9, -9, -9, 2);
        MarketRings y = Due.land("00");
        y.market(0);
        y.step(0, 1);
        y.use(0, 1, 0, 0, 99);
        y.use(0, 1, 0, 0, 98);
        y.price(0, 0, 1);
        Due.are("a bid of 1 gets it", new long[] {y.bid(0, 10, 0), y.goes(10, 0), y.goes(0, 0)}, 1, 0, 0);
        y.price(1, 0, 1);
        Due.are("2 is more than 1", new long[] {y.goes(10, 0), y.goes(0, 0)}, 1, 0);
        x.held(10, true);
        Due.are("held", new long[] {x.goes(10, 0), x.goes(10, 1), x.goes(0, 0), x.count(6)}, -9, -9, 0, 3);
        Due.are("no acre", new long[] {x.goes(1, 0), x.goes(-1, 2)}, -1, -1);
        Due.are("another what", new long[] {x.goes(0, 2), x.goes(0, -1)}, -2, -2);
    }

    private static void promise15Ties() {
        MarketRings x = Due.land("000");
        x.market(20);
        x.market(0);
        x.use(0, 1, 0, 5, 1);
        x.use(0, 1, 0, 5, 1);
        x.price(1, 0, 9);
        x.price(1, 1, 9);
        Due.are("even at two markets", new long[] {x.goes(10, 0), x.goes(10, 1), x.goes(0, 1), x.goes(20, 1)}, 1, 0, 1, 0);
        x.price(0, 1, 9);
        Due.are("the least use before the least market", new long[] {x.goes(10, 0), x.goes(10, 1)}, 0, 1);
        x.price(1, 0, 10);
        Due.are("the greatest first", new long[] {x.goes(10, 0), x.goes(10, 1), x.goes(0, 0), x.goes(0, 1)}, 1, 0, 1, 0);
    }

    private static void promise16Rent() {
        MarketRings x = Due.land("000");
        x.market(0);
        x.step(0, 1);
        x.use(0, 1, 0, 0, 67);
        x.price(0, 0, 4);
        Due.are("rents", new long[] {x.rent(0), x.rent(10), x.rent(20), x.rent(-1)}, 400, 333, 266, 999);
        x.tax(-1, 10);
        Due.are("less 10 hundredths, cut", new long[] {x.rent(0), x.rent(10), x.rent(20), x.rent(-1)},
            360, 333 - 33, 266 - 26, 900);
        x.tax(-1, 99);
        Due.are("less 99", new long[] {x.rent(0), x.rent(10), x.rent(20)}, 4, 333 - 329, 266 - 263);
        x.tax(-1, 100);
        Due.is("less all", x.rent(-1), 0);
        x.tax(-1, 0);
        x.held(10, true);
        Due.are("a held acre has none", new long[] {x.rent(10), x.rent(-1)}, 0, 666);
        x.tax(0, 3);
        Due.are("waste has none", new long[] {x.rent(0), x.rent(20), x.rent(-1)}, 100, 0, 100);
        Due.refuses("no acre", x.rent(1), -1);
        Due.refuses("no acre below", x.rent(-2), -1);
    }

    private static void promise17Comes() {
        MarketRings x = Due.land("0129");
        x.market(0);
        x.market(30);
        x.use(0, 2, 3, 0, 9);
        x.use(4, 7, 5, 0, 0);
        x.price(0, 0, 10);
        x.price(0, 1, 10);
        // Yields 2, 5, 8, 29.
        Due.are("comes", new long[] {x.comes(0, 0), x.comes(0, 1), x.comes(1, 0)}, 7, 37, 0);
        x.held(30, true);
        Due.is("not from a held acre", x.comes(0, 1), 8);
        x.price(1, 1, 99);
        Due.are("of houses", new long[] {x.comes(0, 0), x.comes(0, 1), x.comes(1, 1)}, 0, 0, 21);
        Due.are("none such", new long[] {x.comes(2, 0), x.comes(0, 2), x.comes(-1, 0), x.comes(0, -1)}, -1, -1, -1, -1);
    }

    private static void promise24Out() {
        MarketRings x = Due.land("00000");
        x.market(0);
        x.use(0, 1, 0, 0, 10);
        x.use(1, 1, 0, 0, 2);
        Due.are("none goes", new long[] {x.out(0), x.out(1)}, -9, -9);
        x.price(0, 0, 3);
        Due.are("29 and less pay", new long[] {x.out(0), x.out(1)}, 20, -9);
        x.road(20, 10, 3);
        x.road(30, 20, 1);
        Due.is("by roads", x.out(0), 28);
        x.held(40, true);
        Due.is("but for the held one", x.out(0), 18);
        x.price(1, 0, 3);
        Due.are("on foot", new long[] {x.out(0), x.out(1)}, 0, 30);
        x.market(40);
        x.price(1, 1, 4);
        // The walking use pays 400 less the way at market 1: 360 on acre 0.
        Due.are("to its market", new long[] {x.out(0), x.out(1)}, -9, 40);
        x.held(0, true);
        Due.is("to its market", x.out(1), 30);
        Due.are("no use", new long[] {x.out(2), x.out(-1)}, -1, -1);
    }

    private static void promise25Borders() {
        MarketRings x = Due.land("0000/0000");
        Due.is("none", x.borders(), 0);
        x.market(0);
        x.market(31);
        x.use(0, 1, 0, 0, 1);
        x.use(0, 1, 0, 0, 1);
        x.price(0, 0, 9);
        Due.is("one market", x.borders(), 0);
        x.price(1, 1, 9);
        // Line 0 goes 0 0 0 1, line 1 goes 0 0 1 1.
        Due.is("two markets", x.borders(), 3);
        x.held(0, true);
        Due.is("one by one", x.borders(), 3);
        x.held(20, true);
        Due.is("waste has no market", x.borders(), 1);
        x.price(0, 1, 9);
        x.price(1, 1, 0);
        Due.is("unlike markets of one use", x.borders(), 1);
        x.price(1, 0, 0);
        x.price(0, 1, 0);
        Due.is("no border of waste", x.borders(), 0);
    }

    private static void promise30Falls() {
        MarketRings x = Due.land("0000");
        x.market(0);
        x.use(0, 1, 0, 0, 10);
        x.use(0, 1, 0, 0, 10);
        x.price(0, 0, 4);
        // Bids 400, 300, 200, 100.
        Due.are("falls", new long[] {x.falls(0, 0), x.falls(0, 1), x.falls(0, 2), x.falls(0, 3), x.falls(0, 4),
            x.falls(0, 9999), x.falls(1, 9999)}, 0, 1, 2, 3, 4, 4, 0);
        x.tax(0, 2);
        Due.are("a lesser tax", new long[] {x.falls(0, 0), x.falls(0, 2), x.falls(0, 3)}, 0, 0, 1);
        Due.is("nothing changed", x.tax(0, 0), 2);
        x.price(1, 0, 3);
        Due.are("others take what they can", new long[] {x.falls(0, 9999), x.falls(0, 3)}, 1, 1);
        x.held(30, true);
        Due.is("held ones are none", x.falls(0, 9999), 0);
        Due.is("and nothing changed", x.rent(-1), 900);
        Due.are("refusals", new long[] {x.falls(2, 0), x.falls(-1, -1), x.falls(0, -1), x.falls(0, 10000)},
            -1, -1, -4, -6);
    }
}
