/** Promises 34 to 38 and the number of calls, sentence by sentence: the edges that the document names. */
public final class StateBoundsTest {
    private static final String GREATEST = "00000000/00000000/00000000/00000000/00000000/00000000";

    public static void main(String[] args) {
        Each.run(StateBoundsTest.class);
    }

    private static MarketRings rowOf(int many) {
        MarketRings x = Due.land("00");
        for (int i = 0; i < many; i++) {
            x.put(-1);
        }
        return x;
    }

    /** Four acres, the first three of which go to use 1, and the last one to none: bids are 300, 100, 100, -100. */
    private static MarketRings threeOfFour() {
        MarketRings x = Due.land("00/00");
        x.market(0);
        x.use(0, 1, 0, 0, 20);
        x.use(0, 1, 0, 0, 20);
        x.price(1, 0, 3);
        return x;
    }

    private static int judged(MarketRings x, int... row) {
        for (int v : row) {
            x.put(v);
        }
        return x.judge();
    }

    // Promise 34: the row.

    private static void promise34TheLeastByte() {
        MarketRings x = new MarketRings();
        Due.are("-1 is none", new long[] {x.put(-1), x.judge()}, 1, -9);
    }

    private static void promise34TheGreatestByte() {
        MarketRings x = new MarketRings();
        Due.are("99 is no use", new long[] {x.put(99), x.count(9), x.judge()}, 1, 1, 0);
    }

    private static void promise34Below() {
        Twins.refused("put(-2)", -4, Twins::busy, x -> x.put(-2));
        Twins.refused("put(least)", -4, Twins::busy, x -> x.put(Integer.MIN_VALUE));
    }

    private static void promise34Above() {
        Twins.refused("put(100)", -6, Twins::busy, x -> x.put(100));
        Twins.refused("put(greatest)", -6, Twins::busy, x -> x.put(Integer.MAX_VALUE));
    }

    private static void promise34FortyEightBytes() {
        MarketRings x = rowOf(47);
        Due.are("the last", new long[] {x.put(-1), x.count(9)}, 48, 48);
    }

    private static void promise34AFortyNinthByte() {
        Twins.refused("put(0) of 48", -6, () -> rowOf(48), x -> x.put(0));
        Twins.refused("put(100) of 48", -6, () -> rowOf(48), x -> x.put(100));
    }

    private static void promise34BelowComesBeforeRoom() {
        Twins.refused("put(-2) of 48", -4, () -> rowOf(48), x -> x.put(-2));
    }

    private static void promise34RoomAgainWhenJudged() {
        MarketRings x = rowOf(48);
        x.judge();
        Due.is("the first", x.put(0), 1);
    }

    // Promise 35: judged.

    private static void promise35NothingTold() {
        Due.is("wrong at the first acre", judged(threeOfFour()), 0);
        Due.is("even of waste", judged(new MarketRings()), 0);
    }

    private static void promise35AllAreRight() {
        Due.is("-9", judged(threeOfFour(), 1, 1, 1, -1), -9);
    }

    private static void promise35TheFirstIsWrong() {
        Due.is("another use", judged(threeOfFour(), 0, 1, 1, -1), 0);
        Due.is("none", judged(threeOfFour(), -1, 1, 1, -1), 0);
    }

    private static void promise35TheLastIsWrong() {
        Due.is("a use where none is", judged(threeOfFour(), 1, 1, 1, 0), 11);
        Due.is("-1 only is none", judged(threeOfFour(), 1, 1, 1, 99), 11);
    }

    private static void promise35TheFirstOfSeveralLineByLine() {
        Due.is("10 is ahead of 1", judged(threeOfFour(), 1, 0, 0, -1), 10);
        Due.is("1", judged(threeOfFour(), 1, 1, 0, 0), 1);
    }

    private static void promise35TooShort() {
        Due.is("by three", judged(threeOfFour(), 1), 10);
        Due.is("by two", judged(threeOfFour(), 1, 1), 1);
        Due.is("by one", judged(threeOfFour(), 1, 1, 1), 11);
        Due.is("wrong sooner", judged(threeOfFour(), 1, 0, 1), 10);
    }

    private static void promise35TooShortWhereNoneIs() {
        Due.is("none has to be told, too", judged(new MarketRings()), 0);
    }

    private static void promise35TooLong() {
        Due.is("by one", judged(threeOfFour(), 1, 1, 1, -1, -1), 99);
        Due.is("by two", judged(threeOfFour(), 1, 1, 1, -1, 0, 0), 99);
        Due.is("wrong sooner", judged(threeOfFour(), 1, 1, 1, 1, -1), 11);
    }

    private static void promise35TheRowHasNoneThen() {
        MarketRings x = threeOfFour();
        Due.are("right", new long[] {judged(x, 1, 1, 1, -1), x.count(9)}, -9, 0);
        Due.are("wrong", new long[] {judged(x, 0), x.count(9)}, 0, 0);
        Due.are("too long", new long[] {judged(x, 1, 1, 1, -1, 1), x.count(9)}, 99, 0);
        Due.are("none", new long[] {x.judge(), x.count(9)}, 0, 0);
    }

    private static void promise35AHeldAcreGoesToNone() {
        MarketRings x = threeOfFour();
        x.held(0, true);
        Due.is("held", judged(x, -1, 1, 1, -1), -9);
    }

    private static void promise35FortyEightAcres() {
        MarketRings x = Due.land(GREATEST);
        for (int i = 0; i < 48; i++) {
            x.put(-1);
        }
        Due.is("all of waste", x.judge(), -9);
        for (int i = 0; i < 47; i++) {
            x.put(-1);
        }
        Due.is("too short by one", x.judge(), 75);
        for (int i = 0; i < 48; i++) {
            x.put(i < 47 ? -1 : 5);
        }
        Due.is("the last is wrong", x.judge(), 75);
    }

    private static void promise35TheGreatestUse() {
        MarketRings x = Due.land("0");
        x.market(0);
        for (int i = 0; i < 6; i++) {
            x.use(0, 1, 0, 0, 0);
        }
        x.price(5, 0, 1);
        Due.are("5", new long[] {judged(x, 5), judged(x, 4), judged(x, 6)}, -9, 0, 0);
    }

    private static void promise35NothingIsCountedAndNothingChanges() {
        Twins.changesNothing("judge()", 0, twiceJudged(), x -> x.judge());
    }

    private static java.util.function.Supplier<MarketRings> twiceJudged() {
        return () -> {
            MarketRings x = Twins.busy();
            x.judge();
            return x;
        };
    }

    // Promise 36: the image.

    private static void promise36HowManyAcres() {
        Due.is("one", new MarketRings().image(), 1);
        Due.is("all", Due.land(GREATEST).image(), 48);
        MarketRings x = Twins.busy();
        Due.are("held ones, too", new long[] {x.image(), x.on()}, 4, 4);
    }

    private static void promise36OfANewObject() {
        MarketRings x = new MarketRings();
        x.image();
        x.market(0);
        x.use(0, 1, 0, 0, 0);
        x.price(0, 0, 9);
        x.step(0, 3);
        x.tax(-1, 4);
        Due.is("on", x.on(), 1);
        Due.are("nothing again", new long[] {x.count(2), x.count(3), x.rent(-1), x.step(0, 10), x.tax(-1, 0)}, 0, 0, 0, 10, 0);
    }

    private static void promise36ALaterOneTakesItsPlace() {
        MarketRings x = Due.land("00");
        x.toll(0, 1);
        x.image();
        x.toll(0, 2);
        x.image();
        x.toll(0, 3);
        x.on();
        Due.is("2", x.acre(0, 1), 2);
    }

    private static void promise36WhatChangesLaterIsNotInIt() {
        MarketRings x = Twins.busy();
        MarketRings y = Twins.busy();
        x.image();
        y.image();
        changeAll(x);
        x.on();
        y.on();
        Due.isTrue("as then", Sight.of(x, 90).equals(Sight.of(y, 90)));
    }

    /** Another number for all that busy tells, but for the tape and the row. */
    private static void changeAll(MarketRings x) {
        x.market(10);
        x.use(0, 1, 0, 0, 0);
        x.year(1, 99);
        x.price(0, 0, 1);
        x.price(1, 1, 2);
        x.price(2, 2, 50);
        x.piece(0, 0, 3, 999);
        x.piece(1, 1, 3, 999);
        x.tax(0, 77);
        x.tax(1, 78);
        x.tax(-1, 79);
        for (int kind = 0; kind < 4; kind++) {
            x.step(kind, 50 + kind);
        }
        x.toll(0, 80);
        x.toll(11, 81);
        x.road(0, 10, 1);
        x.road(10, 11, 2);
        x.plan(0, 1, 3, 50);
        x.plan(1, 11, 3, 50);
        x.own(0, 3);
        x.own(10, 3);
        x.own(11, -1);
        x.held(1, false);
        x.held(10, true);
    }

    private static void promise36AllIsInIt() {
        MarketRings x = Twins.busy();
        x.image();
        x.feed(1, 47);
        x.feed(3, 0x393939);
        x.read();
        changeAll(x);
        x.on();
        MarketRings y = Twins.busy();
        y.image();
        // The tape is not in it: it is read and empty.
        y.read();
        y.on();
        Due.isTrue("as then", Sight.of(x, 90).equals(Sight.of(y, 90)));
    }

    /** A full land of 48 acres with all there is room for; what is told depends on a number. */
    private static MarketRings full(int n) {
        MarketRings x = new MarketRings();
        lay(x, n);
        for (int use = 0; use < 6; use++) {
            x.use(use == 5 ? 3 : 0, 1 + use, 1, use, 1 + use);
        }
        tell(x, n);
        return x;
    }

    private static void lay(MarketRings x, int n) {
        Due.feed(x, GREATEST.replace('0', (char) ('0' + n)));
        x.read();
        x.market(75);
        x.market(70 + n);
        x.market(10 * n);
        for (int i = 0; i < 8; i++) {
            x.plan(5 + 10 * (i % 7), 15 + 10 * (i % 7), n, i * n);
        }
        for (int i = 0; i < 12; i++) {
            x.road(10 * (i % 7) + i / 7, 10 * (i % 7) + 10 + i / 7, 1 + (i + n) % 3);
        }
        x.toll(75, n);
        x.own(75, n);
        x.held(75, n == 1);
    }

    private static void tell(MarketRings x, int n) {
        for (int use = 0; use < 6; use++) {
            for (int market = 0; market < 3; market++) {
                x.price(use, market, 100 * n + 10 * use + market);
            }
            x.tax(use, n + use);
        }
        x.year(5, n);
        x.piece(5, 2, n, 900);
        x.tax(-1, n);
        for (int kind = 0; kind < 4; kind++) {
            x.step(kind, 10 * n + kind);
        }
    }

    private static void promise36AllThereIsRoomForIsInIt() {
        MarketRings x = full(1);
        x.image();
        lay(x, 2);
        tell(x, 2);
        Due.are("the other one", new long[] {x.acre(75, 0), x.acre(75, 3), x.acre(72, 4), x.price(5, 2, 300)}, 2, 2, 1, 252);
        Due.is("on", x.on(), 48);
        Due.are("the last acre", new long[] {x.acre(75, 0), x.acre(75, 1), x.acre(75, 2), x.acre(75, 3), x.acre(75, 4)},
            1, 1, 1, 1, 0);
        Due.are("the last market", new long[] {x.acre(10, 4), x.acre(20, 4)}, 2, -9);
        MarketRings y = full(1);
        for (int i = 0; i < 6; i++) {
            Due.is("gain of plan " + i, x.gain(i), y.gain(i));
            Due.is("bid of use " + i, x.bid(i, 75, 2), y.bid(i, 75, 2));
        }
        Due.are("the last plan", new long[] {x.gain(7), x.losers(7)}, y.gain(7), y.losers(7));
        Due.are("the last use", new long[] {x.price(5, 2, 0), x.tax(5, 0), x.year(5, 0), x.bought(5, 2, 900),
            x.piece(5, 2, 0, 0)}, 152, 6, 2, 1, 2);
        Due.are("the last step", new long[] {x.step(0, 1), x.step(3, 1)}, 10, 13);
    }

    private static void promise36MarketsOfLaterAreNotInIt() {
        MarketRings x = Due.land("00");
        x.market(0);
        x.use(0, 1, 0, 0, 1);
        x.price(0, 0, 5);
        x.image();
        x.market(10);
        x.price(0, 1, 9);
        x.use(0, 1, 0, 0, 0);
        x.price(1, 0, 99);
        Due.is("rents", x.rent(-1), 19800);
        x.on();
        Due.are("to market 0 for use 0", new long[] {x.goes(0, 0), x.goes(10, 0), x.goes(0, 1), x.goes(10, 1), x.rent(-1)},
            0, 0, 0, 0, 990);
    }

    // Promise 37: on from it.

    private static MarketRings noImage() {
        MarketRings x = Due.land("12");
        x.toll(10, 3);
        return x;
    }

    private static void promise37ThereIsNone() {
        Twins.refused("on()", -3, StateBoundsTest::noImage, x -> x.on());
        Twins.refused("on() at once", -3, MarketRings::new, x -> x.on());
    }

    private static void promise37AgainAndAgain() {
        MarketRings x = noImage();
        x.image();
        for (int i = 4; i < 8; i++) {
            x.toll(10, i);
            Due.are("on", new long[] {x.on(), x.acre(10, 1)}, 2, 3);
        }
    }

    private static void promise37NotTheTape() {
        MarketRings x = noImage();
        x.feed(2, 0x3838);
        x.image();
        x.feed(1, 0x39);
        x.on();
        Due.are("three bytes", new long[] {x.count(8), x.read(), x.acre(20, 0)}, 3, 3, 9);
        x.on();
        Due.is("nor does it come back", x.count(8), 0);
    }

    private static void promise37NotTheRow() {
        MarketRings x = noImage();
        x.put(-1);
        x.image();
        x.put(-1);
        x.on();
        Due.are("two bytes", new long[] {x.count(9), x.judge()}, 2, -9);
        x.on();
        Due.is("nor does it come back", x.count(9), 0);
    }

    private static void promise37OnToALandOfAnotherSize() {
        MarketRings x = Due.land(GREATEST);
        x.toll(75, 9);
        x.own(75, 2);
        x.image();
        Due.feed(x, "1/2");
        Due.is("a lesser one", x.read(), 2);
        Due.are("back", new long[] {x.on(), x.count(0), x.count(1), x.acre(75, 1), x.acre(75, 3)}, 48, 8, 6, 9, 2);
        MarketRings y = Due.land("1/2");
        y.image();
        Due.feed(y, GREATEST);
        Due.is("a greater one", y.read(), 48);
        Due.are("back", new long[] {y.on(), y.count(0), y.count(1), y.acre(1, 0), y.acre(10, 0)}, 2, 1, 2, 2, -1);
    }

    // Promise 38: counts.

    private static void promise38WhatBesideThese() {
        Twins.changesNothing("count(-1)", -9, Twins::busy, x -> x.count(-1));
        Twins.changesNothing("count(10)", -9, Twins::busy, x -> x.count(10));
        Twins.changesNothing("count(17)", -9, Twins::busy, x -> x.count(17));
        Twins.changesNothing("count(least)", -9, Twins::busy, x -> x.count(Integer.MIN_VALUE));
        Twins.changesNothing("count(greatest)", -9, Twins::busy, x -> x.count(Integer.MAX_VALUE));
    }

    private static void promise38AllThereIs() {
        MarketRings x = Twins.busy();
        Due.are("counts", new long[] {x.count(0), x.count(1), x.count(2), x.count(3), x.count(4), x.count(5), x.count(6),
            x.count(7), x.count(8), x.count(9)}, 2, 2, 2, 2, 1, 1, 1, 1, 3, 2);
    }

    private static void promise38AsManyAsThereCanBe() {
        MarketRings x = Due.land("0000/0000/0000/0000");
        for (int i = 0; i < 6; i++) {
            x.use(0, 1, 0, 0, 0);
            x.market(10 * i);
        }
        for (int i = 0; i < 13; i++) {
            x.road(10 * (i % 4) + i / 4, 10 * (i % 4) + i / 4 + 1, 1);
        }
        for (int i = 0; i < 9; i++) {
            x.plan(0, 10, 1, i);
        }
        for (int i = 0; i < 9; i++) {
            x.feed(8, 0);
        }
        x.feed(4, 0);
        for (int i = 0; i < 50; i++) {
            x.put(0);
        }
        Due.are("counts", new long[] {x.count(2), x.count(3), x.count(4), x.count(5), x.count(8), x.count(9)},
            3, 6, 12, 8, 60, 48);
    }

    private static void promise38Waste() {
        MarketRings x = Due.land("000");
        Due.is("all", x.count(6), 3);
        x.market(0);
        x.use(0, 1, 0, 0, 10);
        x.price(0, 0, 2);
        Due.is("a bid of 0", x.count(6), 1);
        x.held(0, true);
        Due.are("held ones, too", new long[] {x.count(6), x.count(7)}, 2, 1);
        x.held(20, true);
        Due.are("but once", new long[] {x.count(6), x.count(7)}, 2, 2);
    }

    private static void promise38RefusalsOfEachKind() {
        MarketRings x = new MarketRings();
        Due.are("none yet", new long[] {x.count(11), x.count(12), x.count(13), x.count(14), x.count(15), x.count(16)},
            0, 0, 0, 0, 0, 0);
        x.acre(1, 0);
        Due.is("-1", x.count(11), 1);
        x.acre(0, 9);
        x.acre(0, 9);
        Due.is("-2", x.count(12), 2);
        x.on();
        x.on();
        x.on();
        Due.is("-3", x.count(13), 3);
        x.put(-2);
        Due.is("-4", x.count(14), 1);
        x.put(100);
        x.put(100);
        Due.is("-6", x.count(16), 2);
        Due.are("each by itself", new long[] {x.count(11), x.count(12), x.count(13), x.count(14), x.count(15), x.count(16)},
            1, 2, 3, 1, 0, 2);
    }

    private static void promise38RefusalsOfLongs() {
        MarketRings x = new MarketRings();
        Due.is("-1", x.rent(1), 4000000000000000001L);
        Due.is("-2", x.edge(0, 0, 2), 4000000000000000002L);
        Due.is("-3", x.edge(0, 0, 0), 4000000000000000003L);
        Due.is("-4", x.edge(0, -1, 0), 4000000000000000004L);
        Due.is("-6", x.edge(0, 10, 0), 4000000000000000006L);
        Due.are("counted as others", new long[] {x.count(11), x.count(12), x.count(13), x.count(14), x.count(16)}, 1, 1, 1, 1, 1);
    }

    private static void promise38ANoneIsNoRefusal() {
        MarketRings x = Due.land("00");
        x.market(0);
        x.use(0, 1, 0, 0, 0);
        x.piece(0, 0, 9, 999);
        Due.are("-9", new long[] {x.acre(0, 3), x.acre(10, 4), x.goes(0, 0), x.goes(0, 1), x.clears(0, 0), x.ring(0, 0),
            x.out(0), x.hold(0), x.count(99)}, -9, -9, -9, -9, -9, -9, -9, -9, -9);
        Due.are("none", new long[] {x.count(11), x.count(12), x.count(13), x.count(14), x.count(15), x.count(16)},
            0, 0, 0, 0, 0, 0);
    }

    // What it is: a new object is used for 512 calls.

    private static void promise1All512CallsAreAnswered() {
        MarketRings x = new MarketRings();
        for (int i = 0; i < 511; i++) {
            x.on();
        }
        Due.is("the 512th", x.count(13), 511);
    }

    private static void promise1TheLastOf512Calls() {
        MarketRings x = Due.land(GREATEST);
        x.image();
        for (int i = 0; i < 508 - 7; i++) {
            x.toll(75, i % 100);
        }
        Due.is("on", x.on(), 48);
        Due.is("as then", x.acre(75, 1), 0);
    }

    private static void promise1DearCallsAgainAndAgain() {
        MarketRings x = Due.land(GREATEST);
        x.market(0);
        x.market(75);
        x.market(34);
        for (int i = 0; i < 6; i++) {
            x.use(i % 2, 5 + i, 1, i, 1 + i);
        }
        for (int i = 0; i < 18; i++) {
            x.price(i / 3, i % 3, 40);
            x.piece(i / 3, i % 3, 90, 900);
        }
        for (int i = 0; i < 48; i++) {
            x.own(10 * (i % 8) + i / 8, 0);
        }
        for (int i = 0; i < 8; i++) {
            x.plan(10 * (i % 7), 10 * (i % 7) + 10, 2, 1);
        }
        int hold = x.hold(0);
        int best = x.best(99999);
        for (int i = 0; i < 3; i++) {
            Due.is("the same again", x.hold(0), hold);
            Due.is("the same again", x.best(99999), best);
        }
    }
}
