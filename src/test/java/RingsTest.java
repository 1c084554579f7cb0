/** Promises 22 and 23: rings on an even plain and where they end. */
public final class RingsTest {
    public static void main(String[] args) {
        twoRings();
        freshBetween();
        freshTwice();
        oddUses();
        soils();
        tiesAndGaps();
        manyRings();
        refusals();
        Due.end();
    }

    /** The uses of all rings of a soil, then -9; edges one by one in their own test. */
    private static void rings(String what, MarketRings x, int soil, int... uses) {
        for (int i = 0; i < uses.length; i++) {
            Due.is(what + ", ring " + i, x.ring(soil, i), uses[i]);
        }
        Due.is(what + ", ring behind", x.ring(soil, uses.length), -9);
        Due.refuses(what + ", edge behind", x.edge(soil, uses.length, 0), -1);
        Due.refuses(what + ", edge behind, below", x.edge(soil, uses.length, 1), -1);
    }

    private static void edge(MarketRings x, int soil, int i, long above, long below) {
        Due.are("edge " + i + " on " + soil, new long[] {x.edge(soil, i, 0), x.edge(soil, i, 1)}, above, below);
    }

    /** 10000 less 100 d, and 5000 less 10 d. */
    private static MarketRings plain() {
        MarketRings x = new MarketRings();
        x.market(0);
        x.use(0, 10, 0, 0, 10);
        x.use(0, 5, 0, 0, 2);
        x.price(0, 0, 10);
        x.price(1, 0, 10);
        return x;
    }

    private static void twoRings() {
        MarketRings x = plain();
        rings("two", x, 0, 0, 1);
        edge(x, 0, 0, 500, 9);
        edge(x, 0, 1, 500, 1);
        x.tax(1, 20);
        // 3000 less 10 d: they meet at 7000 by 90.
        rings("two, one taxed", x, 0, 0, 1);
        edge(x, 0, 0, 700, 9);
        edge(x, 0, 1, 300, 1);
        x.tax(1, 45);
        rings("one only", x, 0, 0);
        edge(x, 0, 0, 100, 1);
        x.tax(0, 100);
        rings("500 less 10 d", x, 0, 1);
        edge(x, 0, 0, 50, 1);
        x.tax(1, 50);
        rings("none", x, 0);
        x.tax(-1, 100);
        x.tax(1, 45);
        x.held(0, true);
        rings("rent tax and acres do not matter", x, 0, 1);
    }

    private static void freshBetween() {
        MarketRings x = plain();
        x.use(2, 1, 0, 0, 0);
        x.price(2, 0, 80);
        rings("fresh to 60", x, 0, 0, 2, 1);
        edge(x, 0, 0, 20, 1);
        edge(x, 0, 1, 60, 1);
        edge(x, 0, 2, 500, 1);
        x.tax(1, 50);
        rings("fresh, then use 0 again", x, 0, 0, 2, 0);
        edge(x, 0, 2, 100, 1);
        x.tax(0, 45);
        rings("fresh, then none", x, 0, 2);
        edge(x, 0, 0, 60, 1);
    }

    private static void freshTwice() {
        MarketRings x = plain();
        x.tax(0, 9999);
        x.use(2, 49, 0, 0, 0);
        x.price(2, 0, 1);
        rings("one use on both sides", x, 0, 1, 2, 1);
        edge(x, 0, 0, 10, 1);
        edge(x, 0, 1, 60, 1);
        edge(x, 0, 2, 500, 1);
        MarketRings y = new MarketRings();
        y.market(0);
        y.use(2, 7, 0, 0, 3);
        y.price(0, 0, 1);
        rings("fresh may end sooner", y, 0, 0);
        edge(y, 0, 0, 100, 3);
        y.price(0, 0, 2);
        edge(y, 0, 0, 60, 1);
    }

    private static void oddUses() {
        MarketRings x = plain();
        x.use(4, 99, 0, 0, 0);
        x.use(5, 99, 0, 0, 0);
        x.price(2, 0, 999);
        x.price(3, 0, 999);
        rings("no house, no waste", x, 0, 0, 1);
        x.use(1, 10, 0, 5, 3);
        x.price(4, 0, 4);
        // Half the fare: 3500 less 10 d, never above 5000 less 10 d.
        rings("walking below", x, 0, 0, 1);
        x.tax(1, 20);
        // Now above 3000 less 10 d.
        rings("walking", x, 0, 0, 4);
        edge(x, 0, 0, 650, 9);
        edge(x, 0, 1, 350, 1);
        x.use(3, 1, 0, 0, 0);
        x.year(5, 31);
        x.year(5, 32);
        // 3100, without end.
        rings("a turn", x, 0, 0, 5);
        edge(x, 0, 0, 69, 1);
        edge(x, 0, 1, -9, 1);
        x.year(5, -99);
        rings("a turn of bad years", x, 0, 0, 4);
    }

    private static void soils() {
        MarketRings x = new MarketRings();
        x.market(0);
        x.use(0, 5, 2, 10, 3);
        x.use(0, 6, 0, 0, 1);
        x.price(0, 0, 10);
        x.price(1, 0, 9);
        // Use 1 is 5400 less 6 d everywhere; use 0 is 4000 less 15 d, 6000 less 21 d, 22000 less 69 d.
        rings("soil 0", x, 0, 1);
        edge(x, 0, 0, 900, 1);
        rings("soil 1", x, 1, 0, 1);
        edge(x, 1, 0, 40, 1);
        rings("soil 9", x, 9, 0, 1);
        edge(x, 9, 0, 16600, 63);
        edge(x, 9, 1, 900, 1);
        MarketRings y = Due.land("00");
        y.use(0, 1, 0, 0, 0);
        y.market(0);
        y.market(10);
        y.price(0, 1, 9);
        rings("market 0 alone", y, 0);
        y.price(0, 0, 9);
        rings("without end", y, 0, 0);
        edge(y, 0, 0, -9, 1);
        y.tax(0, 6);
        y.use(0, 1, 0, 0, 99);
        y.price(1, 0, 100);
        // 10000 less 99 d ends at 10000 by 99, within the ring of the 300 without end.
        rings("without end behind", y, 0, 1, 0);
        edge(y, 0, 0, 9700, 99);
        edge(y, 0, 1, -9, 1);
        MarketRings z = new MarketRings();
        z.market(0);
        z.use(0, 2, 0, 1, 99);
        z.price(0, 0, 1);
        rings("less than 1", z, 0, 0);
        edge(z, 0, 0, 50, 99);
    }

    private static void tiesAndGaps() {
        MarketRings x = plain();
        x.use(0, 5, 0, 0, 2);
        x.price(2, 0, 10);
        rings("of alike ones the least", x, 0, 0, 1);
        x.use(0, 50, 0, 0, 2);
        x.price(3, 0, 1);
        // 5000 less 100 d is like use 1 at 0 only.
        rings("alike at 0", x, 0, 0, 1);
        x.tax(0, 50);
        rings("alike at 0", x, 0, 1);
        edge(x, 0, 0, 500, 1);
        x.use(0, 1, 0, 0, 99);
        x.price(4, 0, 0);
        rings("0 at 0 is not above 0", x, 0, 1);
    }

    private static void manyRings() {
        MarketRings x = new MarketRings();
        x.market(0);
        x.use(0, 10, 0, 0, 10);
        x.use(2, 7, 0, 0, 10);
        x.use(2, 5, 0, 0, 10);
        x.use(2, 1, 0, 0, 9);
        x.use(0, 1, 0, 0, 1);
        x.use(2, 1, 0, 0, 0);
        x.price(0, 0, 100);
        x.price(1, 0, 140);
        x.price(2, 0, 190);
        x.price(3, 0, 81);
        x.price(4, 0, 75);
        x.price(5, 0, 74);
        // 100000 - 100 d; 98000 - 70 d; 95000 - 50 d; 8100 - 9 d; 7500 - d; 7400.
        // Use 1 would be ahead from 200 by 3 on, where no fresh one is any more.
        rings("six uses", x, 0, 0, 4);
        edge(x, 0, 0, 92500, 99);
        edge(x, 0, 1, 7500, 1);
        x.price(1, 0, 142);
        rings("six uses", x, 0, 0, 1, 0, 4);
        edge(x, 0, 0, 20, 1);
        edge(x, 0, 1, 60, 1);
        edge(x, 0, 2, 92500, 99);
        edge(x, 0, 3, 7500, 1);
    }

    private static void refusals() {
        MarketRings x = new MarketRings();
        Due.are("below", new long[] {x.ring(-1, 0), x.ring(0, -1), x.ring(10, -1)}, -4, -4, -4);
        Due.are("above", new long[] {x.ring(10, 0), x.ring(0, 10)}, -6, -6);
        Due.is("no market", x.ring(9, 9), -3);
        Due.refuses("another part", x.edge(-1, 10, 2), -2);
        Due.refuses("another part below", x.edge(0, 0, -1), -2);
        Due.refuses("below", x.edge(-1, 10, 0), -4);
        Due.refuses("below", x.edge(10, -1, 1), -4);
        Due.refuses("above", x.edge(10, 0, 0), -6);
        Due.refuses("above", x.edge(0, 10, 0), -6);
        Due.refuses("no market", x.edge(0, 0, 0), -3);
        x.market(0);
        Due.is("no ring", x.ring(9, 9), -9);
        Due.refuses("no ring", x.edge(9, 9, 1), -1);
        Due.are("counted", new long[] {x.count(11), x.count(12), x.count(13), x.count(14), x.count(16)}, 1, 2, 2, 5, 4);
    }
}
