/** Promises 18 to 23 and 33, sentence by sentence: the edges that the document names. */
public final class TradeBoundsTest {
    public static void main(String[] args) {
        Each.run(TradeBoundsTest.class);
    }

    /** Two uses at two markets, all prices 0. */
    private static MarketRings twoByTwo() {
        MarketRings x = Due.land("00");
        x.use(0, 1, 0, 0, 0);
        x.use(0, 1, 0, 0, 0);
        x.market(0);
        x.market(10);
        return x;
    }

    private static MarketRings sixPieces() {
        MarketRings x = twoByTwo();
        for (int i = 0; i < 6; i++) {
            x.piece(0, 0, 1 << i, 10 * i);
        }
        return x;
    }

    // Promise 18: pieces.

    private static void promise18TheLeastPiece() {
        MarketRings x = twoByTwo();
        Due.are("of 0 at 0", new long[] {x.piece(0, 0, 0, 0), x.bought(0, 0, 0)}, 1, 0);
        Due.are("of 1 at 0", new long[] {x.piece(0, 0, 1, 0), x.bought(0, 0, 0), x.bought(0, 0, 1)}, 2, 1, 0);
    }

    private static void promise18TheGreatestPiece() {
        MarketRings x = twoByTwo();
        Due.are("of 9999 at 999", new long[] {x.piece(0, 0, 9999, 999), x.bought(0, 0, 999)}, 1, 9999);
    }

    private static void promise18SixPieces() {
        MarketRings x = sixPieces();
        Due.are("at each price", new long[] {x.bought(0, 0, 0), x.bought(0, 0, 1), x.bought(0, 0, 11), x.bought(0, 0, 21),
            x.bought(0, 0, 31), x.bought(0, 0, 41), x.bought(0, 0, 51)}, 63, 62, 60, 56, 48, 32, 0);
        MarketRings y = twoByTwo();
        for (int i = 1; i <= 6; i++) {
            Due.is("how many", y.piece(1, 1, 9999, 999), i);
        }
        Due.is("all together", y.bought(1, 1, 999), 59994);
    }

    private static void promise18ASeventhPiece() {
        Twins.refused("piece(0, 0, 1, 1) of six", -6, TradeBoundsTest::sixPieces, x -> x.piece(0, 0, 1, 1));
    }

    private static void promise18SixOfEachUseAtEachMarket() {
        MarketRings x = sixPieces();
        Due.are("others have none yet", new long[] {x.piece(0, 1, 1, 1), x.piece(1, 0, 2, 1), x.piece(1, 1, 3, 1)}, 1, 1, 1);
        Due.are("each its own", new long[] {x.bought(0, 1, 1), x.bought(1, 0, 1), x.bought(1, 1, 1)}, 1, 2, 3);
    }

    private static void promise18Below() {
        Twins.refused("piece(0, 0, -1, 1)", -4, Twins::busy, x -> x.piece(0, 0, -1, 1));
        Twins.refused("piece(0, 0, 1, -1)", -4, Twins::busy, x -> x.piece(0, 0, 1, -1));
        Twins.refused("piece(0, 0, 1, least)", -4, Twins::busy, x -> x.piece(0, 0, 1, Integer.MIN_VALUE));
    }

    private static void promise18Above() {
        Twins.refused("piece(0, 0, 10000, 1)", -6, Twins::busy, x -> x.piece(0, 0, 10000, 1));
        Twins.refused("piece(0, 0, 1, 1000)", -6, Twins::busy, x -> x.piece(0, 0, 1, 1000));
        Twins.refused("piece(0, 0, greatest, 1)", -6, Twins::busy, x -> x.piece(0, 0, Integer.MAX_VALUE, 1));
    }

    private static void promise18NoSuchUseOrMarket() {
        Twins.refused("piece(2, 0, 1, 1)", -1, Twins::busy, x -> x.piece(2, 0, 1, 1));
        Twins.refused("piece(-1, 0, 1, 1)", -1, Twins::busy, x -> x.piece(-1, 0, 1, 1));
        Twins.refused("piece(0, 2, 1, 1)", -1, Twins::busy, x -> x.piece(0, 2, 1, 1));
        Twins.refused("piece(0, 3, 1, 1)", -1, Twins::busy, x -> x.piece(0, 3, 1, 1));
        Twins.refused("piece(0, -1, 1, 1)", -1, Twins::busy, x -> x.piece(0, -1, 1, 1));
        Twins.refused("piece(9, 9, 1, 1)", -1, Twins::busy, x -> x.piece(9, 9, 1, 1));
    }

    private static void promise18NoneComesBeforeNumbers() {
        Twins.refused("piece(2, 0, -1, 1)", -1, Twins::busy, x -> x.piece(2, 0, -1, 1));
        Twins.refused("piece(0, 2, 1, 1000)", -1, Twins::busy, x -> x.piece(0, 2, 1, 1000));
    }

    private static void promise18BelowComesBeforeAbove() {
        Twins.refused("piece(0, 0, 10000, -1)", -4, Twins::busy, x -> x.piece(0, 0, 10000, -1));
        Twins.refused("piece(0, 0, -1, 1000)", -4, Twins::busy, x -> x.piece(0, 0, -1, 1000));
    }

    private static void promise18BelowComesBeforeRoom() {
        Twins.refused("piece(0, 0, -1, 1) of six", -4, TradeBoundsTest::sixPieces, x -> x.piece(0, 0, -1, 1));
        Twins.refused("piece(0, 0, 1, -1) of six", -4, TradeBoundsTest::sixPieces, x -> x.piece(0, 0, 1, -1));
    }

    // Promise 19: what is bought.

    private static void promise19WithoutPieces() {
        MarketRings x = twoByTwo();
        Due.are("nothing", new long[] {x.bought(0, 0, 0), x.bought(1, 1, 999)}, 0, 0);
    }

    private static void promise19AtThePriceOrLess() {
        MarketRings x = twoByTwo();
        x.piece(0, 0, 5, 40);
        Due.are("39, 40, 41", new long[] {x.bought(0, 0, 39), x.bought(0, 0, 40), x.bought(0, 0, 41)}, 5, 5, 0);
    }

    private static void promise19TheLeastAndTheGreatestPrice() {
        MarketRings x = twoByTwo();
        x.piece(0, 0, 5, 0);
        x.piece(0, 0, 7, 999);
        Due.are("0 and 999", new long[] {x.bought(0, 0, 0), x.bought(0, 0, 999)}, 12, 7);
    }

    private static void promise19Below() {
        Twins.refused("bought(0, 0, -1)", -4, Twins::busy, x -> x.bought(0, 0, -1));
        Twins.refused("bought(0, 0, least)", -4, Twins::busy, x -> x.bought(0, 0, Integer.MIN_VALUE));
    }

    private static void promise19Above() {
        Twins.refused("bought(0, 0, 1000)", -6, Twins::busy, x -> x.bought(0, 0, 1000));
        Twins.refused("bought(0, 0, greatest)", -6, Twins::busy, x -> x.bought(0, 0, Integer.MAX_VALUE));
    }

    private static void promise19NoSuchUseOrMarket() {
        Twins.refused("bought(2, 0, 1)", -1, Twins::busy, x -> x.bought(2, 0, 1));
        Twins.refused("bought(-1, 0, 1)", -1, Twins::busy, x -> x.bought(-1, 0, 1));
        Twins.refused("bought(0, 2, 1)", -1, Twins::busy, x -> x.bought(0, 2, 1));
        Twins.refused("bought(0, -1, 1)", -1, Twins::busy, x -> x.bought(0, -1, 1));
        Twins.refused("bought(0, 3, 1)", -1, Twins::busy, x -> x.bought(0, 3, 1));
    }

    private static void promise19NoneComesFirst() {
        Twins.refused("bought(2, 0, -1)", -1, Twins::busy, x -> x.bought(2, 0, -1));
        Twins.refused("bought(0, 2, 1000)", -1, Twins::busy, x -> x.bought(0, 2, 1000));
    }

    // Promise 20: the price that clears.

    /** One acre on soil 0 with market 0, one use that yields 1 and costs as much as told. */
    private static MarketRings one(int cost) {
        MarketRings x = new MarketRings();
        x.market(0);
        x.use(0, 1, 0, cost, 0);
        return x;
    }

    private static void promise20TheLeastPriceIs0() {
        MarketRings x = one(5);
        Due.is("nothing is bought", x.clears(0, 0), 0);
        x.piece(0, 0, 0, 999);
        Due.is("a piece of 0", x.clears(0, 0), 0);
        MarketRings y = new MarketRings();
        y.market(0);
        y.use(3, 1, 0, 0, 0);
        y.year(0, 1);
        y.piece(0, 0, 1, 999);
        Due.is("it comes at 0", y.clears(0, 0), 0);
    }

    private static void promise20TheGreatestPriceIs999() {
        MarketRings x = one(998);
        x.piece(0, 0, 1, 999);
        Due.is("999", x.clears(0, 0), 999);
        MarketRings y = one(9999);
        y.piece(0, 0, 1, 998);
        Due.is("none is bought at 999", y.clears(0, 0), 999);
    }

    private static void promise20EachPriceMayClear() {
        for (int from = 0; from < 1000; from += 200) {
            MarketRings x = one(0);
            x.piece(0, 0, 1, 999);
            for (int price = Math.max(1, from); price < from + 200; price++) {
                x.tax(0, price - 1);
                Due.is("1 more than the tax", x.clears(0, 0), price);
            }
        }
    }

    private static void promise20None() {
        MarketRings x = one(999);
        x.piece(0, 0, 1, 999);
        Due.is("it would come at 1000", x.clears(0, 0), -9);
        MarketRings y = one(0);
        y.piece(0, 0, 2, 999);
        Due.is("too little comes", y.clears(0, 0), -9);
    }

    private static void promise20AsMuchIsEnough() {
        MarketRings x = Due.land("00");
        x.market(0);
        x.use(0, 3, 0, 0, 10);
        x.piece(0, 0, 3, 999);
        Due.is("3 of 3", x.clears(0, 0), 1);
        x.piece(0, 0, 1, 999);
        Due.is("6 of 4", x.clears(0, 0), 2);
        x.piece(0, 0, 2, 999);
        Due.is("6 of 6", x.clears(0, 0), 2);
        x.piece(0, 0, 1, 20);
        Due.is("6 of 7 until 20", x.clears(0, 0), 21);
    }

    private static void promise20ThePriceIsAsItWas() {
        // 28 is the least price at which the acre 11 with its 13 goes to use 0, as 33100 are bid for it by use 1.
        Twins.changesNothing("clears(0, 0)", 28, Twins::busy, x -> x.clears(0, 0));
        MarketRings x = one(5);
        x.price(0, 0, 77);
        x.piece(0, 0, 1, 999);
        Due.is("from above", x.clears(0, 0), 6);
        Due.are("77", new long[] {x.bid(0, 0, 0), x.price(0, 0, 0)}, 7200, 77);
    }

    private static void promise20OthersAsTheyAre() {
        MarketRings x = one(0);
        x.use(0, 1, 0, 0, 0);
        x.price(0, 0, 8);
        x.piece(1, 0, 1, 999);
        Due.is("more than the lesser use", x.clears(1, 0), 9);
        x.price(1, 0, 8);
        x.piece(0, 0, 1, 999);
        Due.is("as much as the greater use", x.clears(0, 0), 8);
    }

    private static void promise20AHundredthMoreOrLess() {
        MarketRings x = Due.land("00");
        x.market(0);
        x.held(0, true);
        x.step(0, 1);
        x.use(0, 1, 0, 0, 0);
        x.use(0, 1, 0, 0, 99);
        x.piece(0, 0, 1, 999);
        x.price(1, 0, 6);
        Due.is("500 is less than 501", x.clears(0, 0), 6);
        MarketRings y = Due.land("00");
        y.market(0);
        y.held(0, true);
        y.step(0, 1);
        y.use(0, 1, 0, 0, 99);
        y.use(0, 1, 0, 0, 0);
        y.piece(1, 0, 1, 999);
        y.price(0, 0, 6);
        Due.is("600 is more than 501", y.clears(1, 0), 6);
        y.piece(0, 0, 1, 999);
        Due.is("1 is above 0", y.clears(0, 0), 1);
    }

    private static void promise20OtherMarketsAsTheyAre() {
        MarketRings x = Due.land("00");
        x.market(10);
        x.market(0);
        x.use(0, 1, 0, 0, 0);
        x.held(0, true);
        x.price(0, 0, 8);
        x.piece(0, 1, 1, 999);
        Due.is("more than the lesser market", x.clears(0, 1), 9);
        x.price(0, 1, 7);
        x.piece(0, 0, 1, 999);
        Due.is("as much as the greater market", x.clears(0, 0), 7);
    }

    private static void promise20WhatNeverComes() {
        MarketRings x = Due.land("00");
        x.market(0);
        x.use(5, 9, 9, 0, 0);
        x.use(0, 0, 0, 0, 0);
        x.use(2, 1, 0, 0, 0);
        x.piece(0, 0, 1, 30);
        x.piece(1, 0, 1, 999);
        x.piece(2, 0, 2, 999);
        Due.is("waste", x.clears(0, 0), 31);
        Due.is("without a yield", x.clears(1, 0), -9);
        Due.is("fresh", x.clears(2, 0), 1);
        x.step(0, 61);
        Due.is("fresh too far", x.clears(2, 0), -9);
        x.held(0, true);
        x.held(10, true);
        x.step(0, 60);
        Due.is("held", x.clears(2, 0), -9);
    }

    private static void promise20NoSuchUseOrMarket() {
        Twins.refused("clears(2, 0)", -1, Twins::busy, x -> x.clears(2, 0));
        Twins.refused("clears(-1, 0)", -1, Twins::busy, x -> x.clears(-1, 0));
        Twins.refused("clears(0, 2)", -1, Twins::busy, x -> x.clears(0, 2));
        Twins.refused("clears(0, 3)", -1, Twins::busy, x -> x.clears(0, 3));
        Twins.refused("clears(0, -1)", -1, Twins::busy, x -> x.clears(0, -1));
        Twins.refused("clears(7, 7)", -1, Twins::busy, x -> x.clears(7, 7));
    }

    private static void promise20NoneIsNotCounted() {
        MarketRings x = one(999);
        x.piece(0, 0, 1, 999);
        x.clears(0, 0);
        Due.are("refusals", new long[] {x.count(11), x.count(12), x.count(13), x.count(14), x.count(16)}, 0, 0, 0, 0, 0);
    }

    // Promise 21: rounds.

    /** Two uses that bid each other up for one acre, from 0 and 4 on, by 2 a round until 9 and 10. */
    private static MarketRings race() {
        MarketRings x = one(0);
        x.use(0, 1, 0, 0, 0);
        x.price(1, 0, 4);
        x.piece(0, 0, 1, 8);
        x.piece(1, 0, 1, 10);
        return x;
    }

    private static void promise21OneIsTheLeast() {
        MarketRings x = race();
        Due.is("one", x.rounds(1), 1);
        Due.are("prices", new long[] {x.price(0, 0, 0), x.price(1, 0, 0)}, 4, 5);
    }

    private static void promise21TwentyIsTheGreatest() {
        MarketRings x = one(0);
        x.use(0, 1, 0, 0, 0);
        x.piece(0, 0, 1, 99);
        x.piece(1, 0, 1, 99);
        // 1 and 2 behind the first round, each 1 more behind every other one.
        Due.is("twenty", x.rounds(20), 20);
        Due.are("prices", new long[] {x.price(0, 0, 0), x.price(1, 0, 0)}, 20, 21);
    }

    private static void promise21Below() {
        Twins.refused("rounds(0)", -4, TradeBoundsTest::race, x -> x.rounds(0));
        Twins.refused("rounds(-1)", -4, TradeBoundsTest::race, x -> x.rounds(-1));
        Twins.refused("rounds(least)", -4, TradeBoundsTest::race, x -> x.rounds(Integer.MIN_VALUE));
    }

    private static void promise21Above() {
        Twins.refused("rounds(21)", -6, TradeBoundsTest::race, x -> x.rounds(21));
        Twins.refused("rounds(greatest)", -6, TradeBoundsTest::race, x -> x.rounds(Integer.MAX_VALUE));
    }

    private static void promise21TheOneThatChangesNoneCountsToo() {
        MarketRings x = one(0);
        x.piece(0, 0, 1, 9);
        Due.is("one changes, one does not", x.rounds(20), 2);
        Due.is("none changes", x.rounds(20), 1);
    }

    private static void promise21ItEndsWhereOneIsAllThatIsAskedFor() {
        MarketRings x = one(0);
        x.piece(0, 0, 1, 9);
        Due.are("one", new long[] {x.rounds(1), x.price(0, 0, 1)}, 1, 1);
        MarketRings y = race();
        Due.is("as many as asked for", y.rounds(2), 2);
    }

    private static void promise21WithoutPiecesNonePrice() {
        MarketRings x = one(0);
        x.price(0, 0, 7);
        Due.are("as it was", new long[] {x.rounds(5), x.price(0, 0, 7)}, 1, 7);
        x.piece(0, 0, 0, 0);
        Due.are("with a piece of nothing", new long[] {x.rounds(5), x.price(0, 0, 7)}, 2, 0);
    }

    private static void promise21IfNoneClearsThePriceStays() {
        MarketRings x = one(0);
        x.price(0, 0, 7);
        x.piece(0, 0, 2, 999);
        Due.are("7", new long[] {x.clears(0, 0), x.rounds(5), x.price(0, 0, 7)}, -9, 1, 7);
    }

    private static void promise21AtOnce() {
        MarketRings x = one(0);
        x.use(0, 1, 0, 0, 0);
        x.piece(0, 0, 1, 9);
        x.piece(1, 0, 1, 9);
        // Use 0 gets 1, and use 1 has to pay more than that.
        x.rounds(1);
        Due.are("prices", new long[] {x.price(0, 0, 0), x.price(1, 0, 0)}, 1, 2);
    }

    private static void promise21UsesByNumbersThenMarketsByNumbers() {
        MarketRings x = Due.land("00");
        x.market(0);
        x.market(10);
        x.held(10, true);
        x.use(0, 1, 0, 0, 0);
        x.use(0, 1, 0, 0, 0);
        for (int i = 0; i < 4; i++) {
            x.piece(i / 2, i % 2, 1, 99);
        }
        x.rounds(1);
        Due.are("each one more", new long[] {x.price(0, 0, 0), x.price(0, 1, 0), x.price(1, 0, 0), x.price(1, 1, 0)}, 1, 2, 3, 4);
    }

    private static void promise21ThePriceThatComesToMarket2() {
        MarketRings x = Due.land("000");
        x.market(0);
        x.market(10);
        x.market(20);
        for (int i = 0; i < 6; i++) {
            x.use(0, 1, 0, 0, 0);
        }
        x.piece(5, 2, 3, 999);
        Due.are("the last use at the last market", new long[] {x.rounds(3), x.price(5, 2, 0)}, 2, 1);
    }

    private static void promise21WithoutUsesOrMarkets() {
        Due.is("one", new MarketRings().rounds(20), 1);
        MarketRings x = one(0);
        x.piece(0, 0, 1, 9);
        x.feed(1, 48);
        x.read();
        Due.are("its market is gone", new long[] {x.rounds(20), x.market(0), x.price(0, 0, 0)}, 1, 0, 0);
    }

    // Promise 22: rings.

    /** Rings of 10000 less 100 d and 5000 less 10 d. */
    private static MarketRings plain() {
        MarketRings x = new MarketRings();
        x.market(0);
        x.use(0, 10, 0, 0, 10);
        x.use(0, 5, 0, 0, 2);
        x.price(0, 0, 10);
        x.price(1, 0, 10);
        return x;
    }

    private static void promise22TheLeastAndTheGreatestSoil() {
        MarketRings x = new MarketRings();
        x.market(0);
        x.use(0, 0, 1, 0, 1);
        x.price(0, 0, 1);
        Due.are("soil 0 yields nothing", new long[] {x.ring(0, 0), x.ring(9, 0), x.edge(9, 0, 0), x.edge(9, 0, 1)},
            -9, 0, 100, 1);
    }

    private static void promise22TheGreatestNumber() {
        Due.is("none such", plain().ring(0, 9), -9);
    }

    private static void promise22BelowSoil() {
        Twins.refused("ring(-1, 0)", -4, Twins::busy, x -> x.ring(-1, 0));
        Twins.refused("ring(least, 0)", -4, Twins::busy, x -> x.ring(Integer.MIN_VALUE, 0));
    }

    private static void promise22BelowNumber() {
        Twins.refused("ring(0, -1)", -4, Twins::busy, x -> x.ring(0, -1));
        Twins.refused("ring(0, least)", -4, Twins::busy, x -> x.ring(0, Integer.MIN_VALUE));
    }

    private static void promise22AboveSoil() {
        Twins.refused("ring(10, 0)", -6, Twins::busy, x -> x.ring(10, 0));
        Twins.refused("ring(greatest, 0)", -6, Twins::busy, x -> x.ring(Integer.MAX_VALUE, 0));
    }

    private static void promise22AboveNumber() {
        Twins.refused("ring(0, 10)", -6, Twins::busy, x -> x.ring(0, 10));
        Twins.refused("ring(0, greatest)", -6, Twins::busy, x -> x.ring(0, Integer.MAX_VALUE));
    }

    private static MarketRings noMarket() {
        MarketRings x = new MarketRings();
        x.use(0, 1, 0, 0, 1);
        return x;
    }

    private static void promise22NoMarket() {
        Twins.refused("ring(0, 0) without a market", -3, TradeBoundsTest::noMarket, x -> x.ring(0, 0));
        Twins.refused("ring(9, 9) without a market", -3, TradeBoundsTest::noMarket, x -> x.ring(9, 9));
    }

    private static void promise22BelowComesBeforeAbove() {
        Twins.refused("ring(10, -1)", -4, Twins::busy, x -> x.ring(10, -1));
        Twins.refused("ring(-1, 10)", -4, Twins::busy, x -> x.ring(-1, 10));
    }

    private static void promise22NumbersComeBeforeNoMarket() {
        Twins.refused("ring(-1, 0) without a market", -4, TradeBoundsTest::noMarket, x -> x.ring(-1, 0));
        Twins.refused("ring(0, 10) without a market", -6, TradeBoundsTest::noMarket, x -> x.ring(0, 10));
        Twins.refused("ring(10, 0) without a market", -6, TradeBoundsTest::noMarket, x -> x.ring(10, 0));
    }

    private static void promise22NoneSuchIsNotCounted() {
        Twins.changesNothing("ring(0, 9)", -9, Twins::busy, x -> x.ring(0, 9));
    }

    private static void promise22ABidOf0HasNoRing() {
        MarketRings x = new MarketRings();
        x.market(0);
        x.use(0, 1, 0, 1, 1);
        x.price(0, 0, 1);
        Due.is("0 at 0", x.ring(0, 0), -9);
        x.use(0, 1, 0, 1, 0);
        x.price(1, 0, 1);
        Due.is("0 everywhere", x.ring(0, 0), -9);
    }

    private static void promise22OfAlikeOnesTheLeastUse() {
        MarketRings x = plain();
        x.use(0, 10, 0, 0, 10);
        x.price(2, 0, 10);
        Due.are("0, not 2", new long[] {x.ring(0, 0), x.ring(0, 1), x.ring(0, 2)}, 0, 1, -9);
    }

    private static void promise22AlikeInOnePointAlone() {
        MarketRings x = plain();
        x.use(0, 5, 0, 0, 11);
        x.price(2, 0, 20);
        x.use(0, 30, 0, 0, 1);
        x.price(3, 0, 3);
        // 10000 less 55 d from the point 0 on, where it is as much as use 0; 9000 less 30 d.
        Due.are("uses", new long[] {x.ring(0, 0), x.ring(0, 1), x.ring(0, 2), x.ring(0, 3)}, 2, 3, 1, -9);
        Due.are("edges", new long[] {x.edge(0, 0, 0), x.edge(0, 0, 1), x.edge(0, 1, 0), x.edge(0, 1, 1), x.edge(0, 2, 0),
            x.edge(0, 2, 1)}, 40, 1, 200, 1, 500, 1);
    }

    private static void promise22ThreeAlikeInOnePoint() {
        MarketRings x = plain();
        x.price(0, 0, 9);
        x.tax(1, 5);
        x.use(0, 10, 0, 15, 5);
        x.price(2, 0, 8);
        // 9000 - 100 d, 4500 - 10 d and 6500 - 50 d: alike two by two, the third below them.
        Due.are("two rings", new long[] {x.ring(0, 0), x.ring(0, 1), x.edge(0, 0, 0), x.edge(0, 0, 1)}, 0, 1, 50, 1);
        x.tax(2, 0);
        x.price(2, 0, 9);
        x.tax(2, 5);
        // 7000 - 50 d: at 50 it has 4500, at 62.5 use 1 has more; at 40 it has 5000 and use 0, too.
        Due.are("three rings", new long[] {x.ring(0, 0), x.ring(0, 1), x.ring(0, 2), x.edge(0, 0, 0), x.edge(0, 0, 1),
            x.edge(0, 1, 0), x.edge(0, 1, 1)}, 0, 2, 1, 40, 1, 125, 2);
    }

    private static void promise22NoHouse() {
        MarketRings x = plain();
        x.use(4, 99, 0, 0, 0);
        x.price(2, 0, 999);
        Due.are("as without", new long[] {x.ring(0, 0), x.ring(0, 1), x.ring(0, 2)}, 0, 1, -9);
    }

    private static void promise22NoWaste() {
        MarketRings x = plain();
        x.use(5, 99, 0, 0, 0);
        x.price(2, 0, 999);
        Due.are("as without", new long[] {x.ring(0, 0), x.ring(0, 1), x.ring(0, 2)}, 0, 1, -9);
    }

    private static void promise22AtMarket0Alone() {
        MarketRings x = Due.land("00");
        x.market(10);
        x.market(0);
        x.use(0, 1, 0, 0, 1);
        x.price(0, 1, 9);
        Due.is("not at market 1", x.ring(0, 0), -9);
        x.price(0, 0, 1);
        Due.are("at market 0", new long[] {x.ring(0, 0), x.edge(0, 0, 0)}, 0, 100);
    }

    private static void promise22FreshNoneBeyond60() {
        MarketRings x = new MarketRings();
        x.market(0);
        x.use(2, 1, 0, 0, 0);
        x.price(0, 0, 1);
        Due.are("to 60", new long[] {x.ring(0, 0), x.edge(0, 0, 0), x.edge(0, 0, 1), x.ring(0, 1)}, 0, 60, 1, -9);
        x.use(0, 1, 0, 0, 0);
        x.price(1, 0, 1);
        Due.are("then the other", new long[] {x.ring(0, 0), x.ring(0, 1), x.edge(0, 1, 0), x.edge(0, 1, 1)}, 0, 1, -9, 1);
    }

    private static void promise22FreshShortlyBefore60() {
        MarketRings x = new MarketRings();
        x.market(0);
        x.use(0, 10, 0, 1, 20);
        x.use(2, 1, 0, 0, 0);
        x.price(0, 0, 13);
        x.price(1, 0, 10);
        // 12900 - 200 d, and 1000 until 60.
        Due.are("uses", new long[] {x.ring(0, 0), x.ring(0, 1), x.ring(0, 2), x.ring(0, 3)}, 0, 1, 0, -9);
        Due.are("edges", new long[] {x.edge(0, 0, 0), x.edge(0, 0, 1), x.edge(0, 1, 0), x.edge(0, 1, 1), x.edge(0, 2, 0),
            x.edge(0, 2, 1)}, 119, 2, 60, 1, 129, 2);
    }

    private static void promise22FreshEndsAsItIsAt60() {
        MarketRings x = new MarketRings();
        x.market(0);
        x.use(2, 3, 0, 0, 2);
        x.use(0, 1, 0, 0, 1);
        x.price(0, 0, 2);
        x.price(1, 0, 3);
        // 600 - 6 d and 300 - d are alike at 60.
        Due.are("uses", new long[] {x.ring(0, 0), x.ring(0, 1), x.edge(0, 0, 0), x.edge(0, 0, 1)}, 0, 1, 60, 1);
    }

    private static void promise22OneUseBefore60AndBehind() {
        MarketRings x = plain();
        x.use(2, 1, 0, 0, 0);
        x.price(2, 0, 1);
        // A cut at 60 that changes nothing parts no ring.
        Due.are("as without", new long[] {x.ring(0, 0), x.ring(0, 1), x.ring(0, 2), x.edge(0, 0, 0), x.edge(0, 0, 1)},
            0, 1, -9, 500, 9);
    }

    private static void promise22WalkingByTheWayItself() {
        MarketRings x = new MarketRings();
        x.market(0);
        x.step(0, 50);
        x.use(1, 1, 0, 0, 3);
        x.use(1, 1, 0, 5, 1);
        x.price(0, 0, 9);
        x.price(1, 0, 7);
        // 900 less d, and 200 without end.
        Due.are("rings", new long[] {x.ring(0, 0), x.edge(0, 0, 0), x.edge(0, 0, 1), x.ring(0, 1), x.edge(0, 1, 0)},
            0, 700, 1, 1, -9);
    }

    private static void promise22WalkingWithHalfTheFareCut() {
        int[] fares = {1, 2, 3, 5, 98, 99};
        long[] halves = {0, 1, 1, 2, 49, 49};
        for (int i = 0; i < fares.length; i++) {
            MarketRings x = new MarketRings();
            x.market(0);
            x.use(1, 1, 0, 0, fares[i]);
            x.price(0, 0, 49);
            long end = halves[i] == 0 ? -9 : 4900 / halves[i];
            Due.are("fare " + fares[i], new long[] {x.ring(0, 0), x.edge(0, 0, 0), x.edge(0, 0, 1)}, 0, end, 1);
        }
    }

    // Promise 23: edges.

    private static void promise23BothParts() {
        MarketRings x = plain();
        Due.are("500 by 9", new long[] {x.edge(0, 0, 0), x.edge(0, 0, 1)}, 500, 9);
    }

    private static void promise23SixRingsWithAllTheirCuts() {
        MarketRings x = new MarketRings();
        x.market(0);
        for (int use = 0; use < 6; use++) {
            x.use(0, 1, 0, 0, 32 >> use);
            x.price(use, 0, 15 - use);
        }
        // 1500 - 32 d, 1400 - 16 d and so on to 1000 - d: any two of them are alike at another place.
        Due.are("uses", new long[] {x.ring(0, 0), x.ring(0, 1), x.ring(0, 2), x.ring(0, 3), x.ring(0, 4), x.ring(0, 5),
            x.ring(0, 6)}, 0, 1, 2, 3, 4, 5, -9);
        Due.are("above", new long[] {x.edge(0, 0, 0), x.edge(0, 1, 0), x.edge(0, 2, 0), x.edge(0, 3, 0), x.edge(0, 4, 0),
            x.edge(0, 5, 0)}, 25, 25, 25, 50, 100, 1000);
        Due.are("below", new long[] {x.edge(0, 0, 1), x.edge(0, 1, 1), x.edge(0, 2, 1), x.edge(0, 3, 1), x.edge(0, 4, 1),
            x.edge(0, 5, 1)}, 4, 2, 1, 1, 1, 1);
    }

    /** Six uses whose bids depend on the soil, each in its own way. */
    private static MarketRings manyRings() {
        MarketRings x = new MarketRings();
        x.market(0);
        for (int use = 0; use < 6; use++) {
            x.use(use % 3, 3 + use, 6 - use, 7 * use, 32 >> use);
            x.price(use, 0, 40 - 3 * use);
        }
        return x;
    }

    private static void promise23EachSoilAsIfAskedAlone() {
        MarketRings x = manyRings();
        for (int soil = 0; soil <= 9; soil++) {
            MarketRings y = manyRings();
            for (int i = 0; i <= 9; i++) {
                Due.is("ring " + i + " on " + soil, x.ring(soil, i), y.ring(soil, i));
                Due.is("edge " + i + " on " + soil, x.edge(soil, i, 0), y.edge(soil, i, 0));
                Due.is("edge " + i + " on " + soil + ", below", x.edge(soil, i, 1), y.edge(soil, i, 1));
            }
        }
    }

    private static void promise23InLeastTerms() {
        MarketRings x = plain();
        x.tax(1, 5);
        // 10000 - 4500 by 90: 5500 by 90.
        Due.are("550 by 9", new long[] {x.edge(0, 0, 0), x.edge(0, 0, 1)}, 550, 9);
        Due.are("4500 by 10", new long[] {x.edge(0, 1, 0), x.edge(0, 1, 1)}, 450, 1);
    }

    private static void promise23IfNever() {
        MarketRings x = plain();
        x.use(0, 1, 0, 0, 0);
        x.price(2, 0, 1);
        Due.are("-9 by 1", new long[] {x.ring(0, 2), x.edge(0, 2, 0), x.edge(0, 2, 1)}, 2, -9, 1);
    }

    private static void promise23Below1() {
        MarketRings x = new MarketRings();
        x.market(0);
        x.use(0, 1, 0, 0, 99);
        x.use(3, 1, 0, 0, 98);
        x.price(0, 0, 1);
        Due.are("100 by 99", new long[] {x.edge(0, 0, 0), x.edge(0, 0, 1)}, 100, 99);
        x.use(0, 99, 0, 98, 99);
        x.tax(0, 1);
        x.price(2, 0, 1);
        Due.are("100 by 9801", new long[] {x.ring(0, 0), x.edge(0, 0, 0), x.edge(0, 0, 1)}, 2, 100, 9801);
    }

    private static void promise23TheGreatestNumbersDoNotWrapAround() {
        MarketRings x = new MarketRings();
        x.market(0);
        x.use(3, 99, 99, 1, 99);
        x.use(3, 99, 99, 0, 98);
        x.use(3, 99, 99, 0, 1);
        x.price(0, 0, 999);
        x.price(1, 0, 998);
        x.price(2, 0, 997);
        for (int use = 0; use < 3; use++) {
            x.year(use, 99);
        }
        // On soil 9: 108701900 - 98010 d; 108603000 - 97020 d; 108504000 - 990 d.
        Due.are("uses", new long[] {x.ring(9, 0), x.ring(9, 1), x.ring(9, 2)}, 0, 2, -9);
        Due.are("edges", new long[] {x.edge(9, 0, 0), x.edge(9, 0, 1), x.edge(9, 1, 0), x.edge(9, 1, 1)},
            9895, 4851, 109600, 1);
    }

    private static void promise23PartsBesideThese() {
        Twins.refusedLong("edge(0, 0, -1)", -2, Twins::busy, x -> x.edge(0, 0, -1));
        Twins.refusedLong("edge(0, 0, 2)", -2, Twins::busy, x -> x.edge(0, 0, 2));
        Twins.refusedLong("edge(0, 0, least)", -2, Twins::busy, x -> x.edge(0, 0, Integer.MIN_VALUE));
    }

    private static void promise23Below() {
        Twins.refusedLong("edge(-1, 0, 0)", -4, Twins::busy, x -> x.edge(-1, 0, 0));
        Twins.refusedLong("edge(0, -1, 1)", -4, Twins::busy, x -> x.edge(0, -1, 1));
    }

    private static void promise23Above() {
        Twins.refusedLong("edge(10, 0, 0)", -6, Twins::busy, x -> x.edge(10, 0, 0));
        Twins.refusedLong("edge(0, 10, 1)", -6, Twins::busy, x -> x.edge(0, 10, 1));
    }

    private static void promise23NoMarket() {
        Twins.refusedLong("edge(0, 0, 0) without a market", -3, TradeBoundsTest::noMarket, x -> x.edge(0, 0, 0));
        Twins.refusedLong("edge(9, 9, 1) without a market", -3, TradeBoundsTest::noMarket, x -> x.edge(9, 9, 1));
    }

    private static void promise23NoSuchRing() {
        Twins.refusedLong("edge(0, 2, 0)", -1, TradeBoundsTest::plain, x -> x.edge(0, 2, 0));
        Twins.refusedLong("edge(0, 9, 1)", -1, TradeBoundsTest::plain, x -> x.edge(0, 9, 1));
        Due.is("the last there is", plain().edge(0, 1, 1), 1);
    }

    private static void promise23PartsComeFirst() {
        Twins.refusedLong("edge(-1, 0, 2)", -2, Twins::busy, x -> x.edge(-1, 0, 2));
        Twins.refusedLong("edge(0, 10, -1)", -2, Twins::busy, x -> x.edge(0, 10, -1));
        Twins.refusedLong("edge(0, 0, 2) without a market", -2, TradeBoundsTest::noMarket, x -> x.edge(0, 0, 2));
        Twins.refusedLong("edge(0, 9, 2)", -2, TradeBoundsTest::plain, x -> x.edge(0, 9, 2));
    }

    private static void promise23BelowComesBeforeAbove() {
        Twins.refusedLong("edge(-1, 10, 0)", -4, Twins::busy, x -> x.edge(-1, 10, 0));
        Twins.refusedLong("edge(10, -1, 0)", -4, Twins::busy, x -> x.edge(10, -1, 0));
    }

    private static void promise23NumbersComeBeforeNoMarket() {
        Twins.refusedLong("edge(-1, 0, 0) without a market", -4, TradeBoundsTest::noMarket, x -> x.edge(-1, 0, 0));
        Twins.refusedLong("edge(10, 0, 0) without a market", -6, TradeBoundsTest::noMarket, x -> x.edge(10, 0, 0));
        Twins.refusedLong("edge(0, 10, 0) without a market", -6, TradeBoundsTest::noMarket, x -> x.edge(0, 10, 0));
    }

    // Promise 33: which acre to hold back.

    /** Three acres, 2 from each; from the second on as soon as 10 are paid, from the third as soon as 20 are. */
    private static MarketRings threeAcres() {
        MarketRings x = Due.land("000");
        x.market(0);
        x.use(0, 2, 0, 0, 99);
        x.piece(0, 0, 4, 50);
        x.price(0, 0, 30);
        return x;
    }

    private static void promise33TheLeastAndTheGreatestOwner() {
        for (int owner = 0; owner <= 3; owner += 3) {
            MarketRings x = threeAcres();
            for (int xy = 0; xy <= 20; xy += 10) {
                x.own(xy, owner);
            }
            Due.is("of " + owner, x.hold(owner), 10);
            Due.is("of another one", x.hold(3 - owner), -9);
        }
    }

    private static void promise33Below() {
        Twins.refused("hold(-1)", -4, Twins::busy, x -> x.hold(-1));
        Twins.refused("hold(least)", -4, Twins::busy, x -> x.hold(Integer.MIN_VALUE));
    }

    private static void promise33Above() {
        Twins.refused("hold(4)", -6, Twins::busy, x -> x.hold(4));
        Twins.refused("hold(greatest)", -6, Twins::busy, x -> x.hold(Integer.MAX_VALUE));
    }

    private static void promise33OfNoAcreNone() {
        Twins.changesNothing("hold(3)", -9, Twins::busy, x -> x.hold(3));
        Due.is("not even of waste", new MarketRings().hold(0), -9);
    }

    private static void promise33NothingChanges() {
        Twins.changesNothing("hold(2)", 10, TradeBoundsTest::owned, x -> x.hold(2));
    }

    /** Owner 2 has the second and the third acre. */
    private static MarketRings owned() {
        MarketRings x = threeAcres();
        x.own(10, 2);
        x.own(20, 2);
        return x;
    }

    private static void promise33NotHeldOnes() {
        MarketRings x = owned();
        Due.is("the second", x.hold(2), 10);
        x.held(10, true);
        Due.is("the third brings nothing", x.hold(2), -9);
    }

    private static void promise33OnlyThoseThatGoToAUseNow() {
        MarketRings x = owned();
        x.own(0, 2);
        x.price(0, 0, 9);
        // At 9 only the first acre goes to the use: held, it lets the price rise to 20 for the others.
        Due.is("the first", x.hold(2), 0);
        x.price(0, 0, 30);
        Due.is("the second", x.hold(2), 10);
    }

    private static void promise33AfterOneRoundOnly() {
        MarketRings x = Due.land("00");
        x.market(0);
        x.use(0, 1, 0, 0, 0);
        x.use(0, 1, 0, 0, 0);
        x.own(0, 0);
        x.own(10, 0);
        x.price(1, 0, 9);
        x.piece(0, 0, 2, 20);
        x.piece(1, 0, 1, 20);
        // Use 0 gets 9, use 1 then 10 for both acres: 2000. With one of them held both get 21: 2100. A second round
        // would bring 2200 without.
        Due.is("more by one round", x.hold(0), 0);
        Due.are("prices of now", new long[] {x.price(0, 0, 0), x.price(1, 0, 9)}, 0, 9);
    }

    private static void promise33WithoutARoundItIsNotJudged() {
        MarketRings x = Due.land("00");
        x.market(0);
        x.use(0, 1, 0, 0, 0);
        x.own(0, 0);
        x.own(10, 0);
        x.price(0, 0, 900);
        x.piece(0, 0, 2, 9);
        // At the prices of now there are 180000; behind a round 200 without, and 1000 with one of them held.
        Due.is("the first", x.hold(0), 0);
    }

    private static void promise33TheLastAcre() {
        MarketRings x = Due.land("00000000/00000000/00000000/00000000/00000001/00000000");
        x.market(0);
        x.use(0, 1, 1, 0, 0);
        x.price(0, 0, 1);
        x.piece(0, 0, 49, 9);
        x.own(74, 0);
        x.own(75, 0);
        // Of 49 any acre is missed, and 10 are paid then: 2000 for acre 74, if 75 is held.
        Due.is("75", x.hold(0), 75);
    }

    private static void promise33AllPricesAreAgainAsTheyWere() {
        MarketRings x = Due.land("00000000/00000000/00000000/00000000/00000000/00000000");
        x.market(0);
        x.market(5);
        x.market(70);
        for (int use = 0; use < 6; use++) {
            x.use(0, 1, 0, 0, 1);
            for (int market = 0; market < 3; market++) {
                x.price(use, market, 3 * use + market);
                x.piece(use, market, 20, 100 + use + market);
            }
        }
        x.own(75, 3);
        x.own(0, 3);
        x.hold(3);
        // The last use pays 1700 at market 2.
        Due.are("bids", new long[] {x.bid(5, 75, 2), x.bid(5, 70, 2), x.bid(0, 0, 0), x.goes(70, 0), x.goes(70, 1)},
            1650, 1700, 0, 5, 2);
        for (int i = 0; i < 18; i++) {
            Due.is("price", x.price(i / 3, i % 3, 0), i);
        }
    }

    private static void promise33MoreThanWithoutAny() {
        MarketRings x = Due.land("000");
        x.market(0);
        x.use(0, 1, 0, 0, 0);
        x.price(0, 0, 1);
        x.own(0, 0);
        x.own(10, 0);
        x.piece(0, 0, 2, 9);
        // 1 for two acres; held, two are left that bring 1 each: 100 of them its own.
        Due.is("less", x.hold(0), -9);
        MarketRings y = Due.land("000");
        y.market(0);
        y.use(0, 1, 0, 0, 0);
        y.price(0, 0, 1);
        y.own(0, 0);
        y.own(10, 0);
        y.piece(0, 0, 3, 1);
        // 200 without; held, the price rises to 2 for the one that is left: 200, which is not more.
        Due.is("as much", y.hold(0), -9);
        MarketRings z = Due.land("000");
        z.market(0);
        z.use(0, 1, 0, 0, 0);
        z.price(0, 0, 1);
        z.own(0, 0);
        z.own(10, 0);
        z.piece(0, 0, 3, 2);
        Due.is("more", z.hold(0), 0);
    }

    private static void promise33OfSeveralTheFirst() {
        MarketRings x = Due.land("00/00");
        x.market(0);
        x.use(0, 1, 0, 0, 0);
        x.price(0, 0, 1);
        x.piece(0, 0, 4, 9);
        x.own(10, 0);
        x.own(1, 0);
        x.own(11, 0);
        // Any of them held lets the price rise from 1 to 10.
        Due.is("by 10 x and y", x.hold(0), 1);
        x.own(1, -1);
        Due.is("10 then", x.hold(0), 10);
    }

    private static void promise33TheGreatest() {
        MarketRings x = Due.land("021");
        x.market(0);
        x.use(0, 1, 1, 0, 0);
        x.price(0, 0, 1);
        x.piece(0, 0, 6, 9);
        x.own(0, 0);
        x.own(10, 0);
        x.own(20, 0);
        // Yields 1, 3, 2; whichever is held, the price rises to 10: 50, 30 or 40 are left.
        Due.is("the one with the least yield", x.hold(0), 0);
        x.own(0, 1);
        Due.is("of two", x.hold(0), 20);
    }

    private static void promise33RentsLessRentTax() {
        MarketRings x = owned();
        x.tax(-1, 100);
        Due.is("nothing is left", x.hold(2), -9);
        x.tax(-1, 98);
        Due.is("1 of 20 is left without, 1 of 40 with it", x.hold(2), -9);
        x.tax(-1, 97);
        Due.is("1 of 20 without, 2 of 40 with it", x.hold(2), 10);
    }

    private static void promise33GreatRentsDoNotWrapAround() {
        MarketRings x = Due.land("99999999/99999999/99999999");
        x.market(0);
        x.use(0, 99, 99, 0, 0);
        x.price(0, 0, 999);
        for (int xy = 0; xy < 80; xy++) {
            if (xy % 10 < 3 && xy != 0 && xy != 1) {
                x.own(xy, 1);
            }
        }
        // 22 acres of 98901000 each are more than 2 to the power of 31, 21 are less.
        Due.is("none", x.hold(1), -9);
    }
}
