/** Promises 18 to 21 and 33: pieces, what is bought, prices that clear, rounds, acres worth holding. */
public final class TradeTest {
    public static void main(String[] args) {
        promise18Piece();
        promise19Bought();
        promise20Clears();
        promise20ClearsAmongOthers();
        promise20ClearsOddUses();
        promise21Rounds();
        promise21RoundsOfTwo();
        promise21RoundsOnANewLand();
        promise33Hold();
        promise33HoldAmongOwners();
        promise33HoldRefusals();
        Due.end();
    }

    /** Three acres in a line; use 0 yields 2 on each; it pays on acre 10 from price 10 on, on acre 20 from 20 on. */
    private static MarketRings threeAcres() {
        MarketRings x = Due.land("000");
        x.market(0);
        x.use(0, 2, 0, 0, 99);
        return x;
    }

    private static void promise18Piece() {
        MarketRings x = Due.land("00");
        Due.is("no use", x.piece(0, 0, 1, 1), -1);
        x.use(0, 1, 0, 0, 0);
        Due.is("no market", x.piece(0, 0, 1, 1), -1);
        x.market(0);
        x.market(10);
        Due.are("how many", new long[] {x.piece(0, 0, 0, 0), x.piece(0, 0, 9999, 999), x.piece(0, 1, 1, 1),
            x.piece(0, 0, 1, 1)}, 1, 2, 1, 3);
        Due.are("below", new long[] {x.piece(0, 0, -1, 0), x.piece(0, 0, 0, -1), x.piece(0, 0, 10000, -1),
            x.piece(0, 0, -1, 1000)}, -4, -4, -4, -4);
        Due.are("above", new long[] {x.piece(0, 0, 10000, 0), x.piece(0, 0, 0, 1000)}, -6, -6);
        Due.are("none such", new long[] {x.piece(1, 0, -1, 0), x.piece(0, 2, -1, 0), x.piece(-1, 0, 1, 1),
            x.piece(0, -1, 1, 1)}, -1, -1, -1, -1);
        Due.are("six", new long[] {x.piece(0, 0, 1, 1), x.piece(0, 0, 1, 1), x.piece(0, 0, 1, 1)}, 4, 5, 6);
        Due.are("no room", new long[] {x.piece(0, 0, 1, 1), x.piece(0, 0, 1, -1), x.piece(0, 1, 1, 1)}, -6, -4, 2);
        Due.is("bought", x.bought(0, 0, 1), 9999 + 4);
    }

    private static void promise19Bought() {
        MarketRings x = Due.land("00");
        x.use(0, 1, 0, 0, 0);
        x.use(0, 1, 0, 0, 0);
        x.market(0);
        x.market(10);
        Due.is("without pieces", x.bought(0, 0, 0), 0);
        x.piece(0, 0, 30, 12);
        x.piece(0, 0, 20, 7);
        x.piece(0, 0, 99, 3);
        x.piece(1, 0, 5, 999);
        x.piece(0, 1, 6, 0);
        Due.are("at a price or less", new long[] {x.bought(0, 0, 0), x.bought(0, 0, 3), x.bought(0, 0, 4),
            x.bought(0, 0, 7), x.bought(0, 0, 8), x.bought(0, 0, 12), x.bought(0, 0, 13), x.bought(0, 0, 999)},
            149, 149, 50, 50, 30, 30, 0, 0);
        Due.are("others", new long[] {x.bought(1, 0, 999), x.bought(0, 1, 0), x.bought(0, 1, 1), x.bought(1, 1, 0)},
            5, 6, 0, 0);
        Due.are("none such", new long[] {x.bought(2, 0, 0), x.bought(0, 2, -1), x.bought(-1, 0, 0)}, -1, -1, -1);
        Due.are("out of bounds", new long[] {x.bought(0, 0, -1), x.bought(0, 0, 1000)}, -4, -6);
    }

    private static void promise20Clears() {
        MarketRings x = threeAcres();
        Due.is("nothing is bought", x.clears(0, 0), 0);
        x.piece(0, 0, 1, 999);
        Due.is("a bid of 0 brings none", x.clears(0, 0), 1);
        x.piece(0, 0, 1, 999);
        Due.is("just as much", x.clears(0, 0), 1);
        x.piece(0, 0, 1, 999);
        Due.is("from acre 10 too", x.clears(0, 0), 10);
        x.piece(0, 0, 2, 999);
        Due.is("from acre 20 too", x.clears(0, 0), 20);
        x.piece(0, 0, 2, 25);
        Due.is("until less is bought", x.clears(0, 0), 26);
        Due.is("the price is as it was", x.price(0, 0, 500), 0);
        Due.is("from another price the same", x.clears(0, 0), 26);
        x.held(10, true);
        Due.is("with an acre held none", x.clears(0, 0), -9);
        x.held(10, false);
        x.piece(0, 0, 9999, 998);
        Due.is("the greatest price of all", x.clears(0, 0), 999);
        Due.are("none such", new long[] {x.clears(1, 0), x.clears(0, 1), x.clears(-1, 0), x.clears(0, -1)},
            -1, -1, -1, -1);
    }

    private static void promise20ClearsAmongOthers() {
        MarketRings x = Due.land("00");
        x.market(0);
        x.market(10);
        x.use(0, 1, 0, 0, 0);
        x.use(0, 1, 0, 0, 0);
        x.use(0, 1, 0, 0, 0);
        x.price(1, 0, 7);
        x.piece(0, 0, 1, 999);
        x.piece(1, 1, 1, 999);
        x.piece(2, 1, 1, 999);
        Due.is("even bids go to the lesser use", x.clears(0, 0), 7);
        Due.is("even bids go to the lesser market", x.clears(1, 1), 8);
        Due.is("even bids go to the lesser use than 2", x.clears(2, 1), 8);
        x.tax(2, 3);
        Due.is("a tax is paid first", x.clears(2, 1), 11);
        MarketRings y = Due.land("00");
        y.market(0);
        y.held(0, true);
        y.step(0, 1);
        y.use(0, 1, 0, 0, 0);
        y.use(0, 1, 0, 0, 99);
        y.piece(1, 0, 1, 999);
        Due.is("a bid of 1 is enough", y.clears(1, 0), 1);
        y.price(0, 0, 5);
        Due.is("501 is more than 500", y.clears(1, 0), 6);
    }

    private static void promise20ClearsOddUses() {
        MarketRings x = Due.land("0000000");
        x.market(0);
        x.use(5, 9, 9, 0, 0);
        x.use(2, 1, 0, 0, 1);
        x.use(3, 1, 0, 0, 0);
        x.use(0, 0, 0, 0, 0);
        x.piece(0, 0, 1, 40);
        Due.is("waste never comes", x.clears(0, 0), 41);
        x.piece(1, 0, 7, 999);
        Due.is("fresh until 60", x.clears(1, 0), 1);
        x.toll(30, 1);
        Due.is("fresh not from 61", x.clears(1, 0), -9);
        x.piece(2, 0, 1, 999);
        x.year(2, -99);
        Due.is("a turn's years", x.clears(2, 0), 100);
        x.year(2, 99);
        x.year(2, 99);
        Due.is("better years", x.clears(2, 0), 0);
        x.piece(3, 0, 0, 5);
        Due.is("no yield, none bought", x.clears(3, 0), 0);
        x.piece(3, 0, 1, 5);
        Due.is("no yield", x.clears(3, 0), 6);
    }

    private static void promise21Rounds() {
        MarketRings x = threeAcres();
        Due.is("none has pieces", x.rounds(5), 1);
        Due.is("and none has another price", x.price(0, 0, 3), 0);
        x.piece(0, 0, 5, 999);
        Due.is("one changes, one does not", x.rounds(20), 2);
        Due.are("known at once", new long[] {x.comes(0, 0), x.goes(20, 0)}, 6, 0);
        Due.is("the price that clears", x.price(0, 0, 3), 20);
        Due.is("one only", x.rounds(1), 1);
        Due.is("it changed", x.price(0, 0, 20), 20);
        Due.is("the one that changes none", x.rounds(7), 1);
        x.piece(0, 0, 9, 999);
        Due.is("none clears", x.rounds(7), 1);
        Due.is("the price stays", x.price(0, 0, 20), 20);
        Due.are("out of bounds", new long[] {x.rounds(0), x.rounds(21), x.rounds(-5)}, -4, -6, -4);
    }

    private static void promise21RoundsOfTwo() {
        MarketRings x = Due.land("0");
        x.market(0);
        x.use(0, 1, 0, 0, 0);
        x.use(0, 1, 0, 0, 0);
        x.price(1, 0, 4);
        x.piece(0, 0, 1, 8);
        x.piece(1, 0, 1, 10);
        // 0: even with 4 it gets the acre at 4. 1: needs 5. 0: 5. 1: 6, 0: 6 ... 0: 8, 1: 9, 0: 9 sells none, 1: 9 still.
        Due.is("three rounds", x.rounds(3), 3);
        Due.are("prices", new long[] {x.price(0, 0, 6), x.price(1, 0, 7)}, 6, 7);
        Due.is("until none changes", x.rounds(20), 4);
        Due.are("prices at the end", new long[] {x.price(0, 0, 9), x.price(1, 0, 10)}, 9, 10);
    }

    private static void promise21RoundsOnANewLand() {
        MarketRings x = threeAcres();
        x.piece(0, 0, 5, 999);
        Due.feed(x, "00");
        x.read();
        Due.is("pieces without a market", x.rounds(3), 1);
        x.market(10);
        Due.is("no price clears for two acres", x.rounds(3), 1);
        x.price(0, 0, 1);
        x.use(0, 1, 0, 0, 0);
        x.piece(1, 0, 1, 20);
        // Acre 10 pays 200 to use 0 and acre 0 pays none: use 1 gets it at 1.
        x.use(0, 9, 0, 0, 0);
        x.price(2, 0, 0);
        Due.is("use 1 clears at once", x.rounds(3), 2);
        Due.is("use 2 has no pieces", x.price(2, 0, 5), 0);
        x.price(2, 0, 0);
        Due.are("prices", new long[] {x.price(0, 0, 0), x.price(1, 0, 0)}, 1, 1);
    }

    private static void promise33Hold() {
        MarketRings x = threeAcres();
        x.own(0, 1);
        x.own(10, 1);
        x.own(20, 1);
        Due.is("nothing changes by it", x.hold(1), -9);
        x.piece(0, 0, 4, 50);
        x.price(0, 0, 30);
        // All go at 30. Behind a round: none held 10: 2000 + 20; 0 held 20: 2020 + 40; 10 held 20: 4000 + 40; 20 held 10.
        Due.is("the middle one", x.hold(1), 10);
        Due.is("the price is as it was", x.price(0, 0, 5), 30);
        Due.are("so are bids", new long[] {x.bid(0, 0, 0), x.goes(10, 0), x.count(7)}, 1000, -9, 0);
        Due.is("of those that go now only acre 0", x.hold(1), 0);
        x.price(0, 0, 30);
        x.held(10, true);
        // None clears at 10 then: 20 without, 50 is too much for one acre, 51 sells none.
        Due.is("not a held one", x.hold(1), 20);
        x.held(10, false);
        x.tax(-1, 100);
        Due.is("of no rent at all none", x.hold(1), -9);
    }

    private static void promise33HoldAmongOwners() {
        MarketRings x = threeAcres();
        x.piece(0, 0, 4, 50);
        x.price(0, 0, 30);
        x.own(10, 2);
        x.own(20, 2);
        x.own(0, 0);
        // For 2: 20 without; 40 when 10 is held; 20 when 20 is held.
        Due.is("of owner 2", x.hold(2), 10);
        // For 0: 2000 without, 0 when its only one is held.
        Due.is("of owner 0", x.hold(0), -9);
        Due.is("of an owner of none", x.hold(3), -9);
        Due.are("and then as before", new long[] {x.bid(0, 0, 0), x.bid(0, 20, 0), x.rent(-1), x.hold(2)},
            6000, 6000 - 3960, 18000 - 5940, 10);
        MarketRings y = Due.land("000/000");
        y.market(10);
        y.use(5, 0, 0, 0, 0);
        y.use(0, 1, 0, 0, 0);
        y.price(1, 0, 1);
        for (int xy : new int[] {0, 1, 10, 11, 20, 21}) {
            y.own(xy, 0);
        }
        y.piece(1, 0, 5, 9);
        // All alike: none held 1 each; one held 1 each, too. With one more wanted it clears at 1, or else at 10.
        Due.is("as many as are wanted are left", y.hold(0), -9);
        y.piece(1, 0, 1, 9);
        Due.is("of even ones the first", y.hold(0), 0);
        Due.are("bids are as before", new long[] {y.bid(1, 0, 0), y.rent(-1), y.price(1, 0, 1)}, 100, 600, 1);
        y.own(0, -1);
        Due.is("the first by 10 x and y", y.hold(0), 1);
    }

    private static void promise33HoldRefusals() {
        MarketRings x = new MarketRings();
        Due.are("hold", new long[] {x.hold(-1), x.hold(4), x.hold(0), x.hold(3), x.hold(Integer.MIN_VALUE)},
            -4, -6, -9, -9, -4);
    }
}
