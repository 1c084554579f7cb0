/** Promises 26 to 29: plans, gains, the best set, losers. */
public final class PlansTest {
    public static void main(String[] args) {
        promise26Plan();
        promise27Gain();
        promise27GainOfMuch();
        promise28Best();
        promise28BestOfEvenOnes();
        promise28OneInAnothersPlace();
        promise28BestOfMany();
        promise29Losers();
        Due.end();
    }

    /** Four acres in a line to the market on the first: rents 1000 less 10 for each of the way. */
    private static MarketRings line() {
        MarketRings x = Due.land("0000");
        x.market(0);
        x.use(0, 1, 0, 0, 10);
        x.price(0, 0, 10);
        return x;
    }

    private static void promise26Plan() {
        MarketRings x = Due.land("0000/0000");
        x.road(0, 10, 1);
        Due.are("not beside each other", new long[] {x.plan(0, 20, 1, 0), x.plan(0, 0, 9, -1), x.plan(0, 2, 1, 0),
            x.plan(40, 30, 1, 0), x.plan(-1, 0, 1, 0)}, -1, -1, -1, -1, -1);
        Due.are("another kind", new long[] {x.plan(0, 10, 0, -1), x.plan(0, 10, 4, 0), x.plan(0, 10, -1, 0)}, -2, -2, -2);
        Due.are("cost below", new long[] {x.plan(0, 10, 1, -1), x.plan(10, 20, 1, Integer.MIN_VALUE)}, -4, -4);
        Due.are("cost above", new long[] {x.plan(0, 10, 1, 100000), x.plan(10, 20, 1, Integer.MAX_VALUE)}, -6, -6);
        Due.are("there is a road", new long[] {x.plan(0, 10, 1, 0), x.plan(10, 0, 3, 99999)}, -3, -3);
        for (int i = 0; i < 8; i++) {
            Due.is("number", x.plan(10, i % 2 == 0 ? 20 : 11, 1 + i % 3, 99999), i);
        }
        Due.are("no room", new long[] {x.plan(20, 30, 1, 0), x.plan(0, 10, 1, 0), x.plan(20, 30, 1, -1)}, -6, -6, -4);
        Due.are("no roads by them", new long[] {x.count(5), x.count(4), x.way(10, 20)}, 8, 1, 10);
    }

    private static void promise27Gain() {
        MarketRings x = line();
        x.plan(20, 10, 2, 0);
        x.plan(10, 20, 2, 1);
        x.plan(20, 10, 3, 2);
        x.plan(10, 20, 3, 3);
        x.plan(10, 0, 1, 99999);
        Due.is("rents", x.rent(-1), 1000 + 900 + 800 + 700);
        Due.are("gains", new long[] {x.gain(0), x.gain(1), x.gain(2), x.gain(3), x.gain(4)},
            140, 140 - 100, 160 - 200, -300, 120 - 9999900);
        Due.are("nothing changed", new long[] {x.rent(-1), x.count(4), x.way(30, 0)}, 3400, 0, 30);
        x.tax(-1, 50);
        Due.is("half of it", x.gain(0), 70);
        x.road(0, 10, 1);
        Due.refuses("there is a road", x.gain(4), -3);
        Due.is("not for others", x.gain(0), 70);
        Due.refuses("no plan", x.gain(5), -1);
        Due.refuses("no plan below", x.gain(-1), -1);
    }

    private static void promise27GainOfMuch() {
        MarketRings x = Due.land("00000000/00000000");
        x.market(0);
        x.use(0, 1, 0, 0, 10);
        x.price(0, 0, 10);
        for (int i = 0; i < 6; i++) {
            x.road(10 * i, 10 * i + 10, 2);
            x.road(10 * i + 1, 10 * i + 11, 2);
        }
        Due.is("twelve roads", x.count(4), 12);
        x.plan(70, 60, 2, 0);
        // Acres 70 and 71 come nearer by 7 each: 71 goes by 70 then.
        Due.is("a thirteenth is thought of", x.gain(0), 140);
        Due.are("but is not there", new long[] {x.count(4), x.road(70, 60, 0), x.way(70, 60)}, 12, 0, 10);
    }

    private static void promise28Best() {
        MarketRings x = line();
        x.plan(30, 20, 2, 1);
        x.plan(20, 10, 2, 2);
        x.plan(10, 0, 2, 4);
        // They bring 70, 140 and 210; the first two cost less than the third.
        Due.are("best", new long[] {x.best(0), x.best(1), x.best(2), x.best(3), x.best(4), x.best(5), x.best(6),
            x.best(7), x.best(99999)}, 0, 1, 2, 3, 3, 5, 6, 7, 7);
        Due.are("nothing changed", new long[] {x.rent(-1), x.count(4), x.way(30, 0)}, 3400, 0, 30);
        Due.are("out of bounds", new long[] {x.best(-1), x.best(100000)}, -4, -6);
        x.road(20, 30, 3);
        Due.are("there is a road", new long[] {x.best(0), x.best(-1), x.best(100000)}, -3, -4, -6);
        x.road(20, 30, 0);
        Due.is("and none any more", x.best(3), 3);
        Due.is("without plans", new MarketRings().best(0), 0);
    }

    private static void promise28BestOfEvenOnes() {
        MarketRings x = line();
        x.plan(0, 10, 3, 0);
        x.plan(10, 0, 3, 7);
        x.plan(0, 1, 1, 0);
        Due.are("none that brings nothing", new long[] {x.best(0), x.best(6)}, 0, 0);
        MarketRings y = line();
        y.plan(10, 0, 2, 5);
        y.plan(10, 0, 2, 3);
        y.plan(0, 10, 2, 3);
        Due.are("the least costs, then the least set", new long[] {y.best(5), y.best(2), y.best(99)}, 2, 0, 2);
        y.step(2, 99);
        Due.is("none is best", y.best(99), 0);
        MarketRings z = line();
        z.plan(30, 20, 1, 0);
        z.plan(20, 30, 1, 0);
        Due.is("of even ones without costs", z.best(0), 1);
    }

    private static void promise28OneInAnothersPlace() {
        MarketRings x = line();
        x.plan(10, 0, 2, 1);
        x.plan(0, 10, 3, 1);
        // The river, built behind the rail, takes its place and helps none.
        Due.is("rail alone", x.best(99), 1);
        MarketRings y = line();
        y.step(1, 10);
        y.plan(0, 10, 1, 1);
        y.plan(0, 10, 2, 1);
        Due.is("the later is there", y.best(99), 2);
        MarketRings z = line();
        z.plan(0, 10, 2, 1);
        z.plan(10, 20, 2, 1);
        z.plan(0, 10, 3, 1);
        Due.is("both rails, no river", z.best(3), 3);
        Due.is("rail to the market", z.best(1), 1);
    }

    private static void promise28BestOfMany() {
        MarketRings x = Due.land("000000000".substring(1));
        x.market(0);
        x.use(0, 1, 0, 0, 1);
        x.price(0, 0, 10);
        for (int i = 0; i < 7; i++) {
            x.plan(10 * i, 10 * i + 10, 1, 10);
        }
        // The plan next to the market helps all seven, the next one six and so on.
        Due.are("the nearest first", new long[] {x.best(9), x.best(10), x.best(35), x.best(69), x.best(70)},
            0, 1, 7, 63, 127);
        x.plan(71 - 1, 60, 2, 10);
        Due.are("the eighth in the place of the seventh", new long[] {x.best(60), x.best(70), x.best(80)}, 63, 191, 191);
    }

    private static void promise29Losers() {
        MarketRings x = line();
        x.step(1, 30);
        x.plan(10, 20, 1, 0);
        x.plan(10, 20, 2, 0);
        Due.are("beyond a slow road", new long[] {x.losers(0), x.losers(1), x.gain(0)}, 2, 0, -400);
        x.held(30, true);
        Due.is("a held one has none to lose", x.losers(0), 1);
        x.price(0, 0, 0);
        Due.is("waste has none to lose", x.losers(0), 0);
        x.road(20, 10, 1);
        Due.are("there is a road", new long[] {x.losers(0), x.losers(1)}, -3, -3);
        Due.are("no plan", new long[] {x.losers(2), x.losers(-1)}, -1, -1);
        MarketRings y = Due.land("000");
        y.market(20);
        y.use(0, 1, 0, 0, 1);
        y.price(0, 0, 99);
        y.step(2, 50);
        y.plan(10, 20, 2, 1);
        Due.is("two lose", y.losers(0), 2);
        Due.is("nothing changed", y.way(0, 20), 20);
    }
}
