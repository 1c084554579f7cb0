/** Promises 34 to 38: the row and its judging, the image, counts. */
public final class StateTest {
    public static void main(String[] args) {
        promise34Put();
        promise35Judge();
        promise36And37Image();
        promise37On();
        promise37OfARead();
        promise38Count();
        Due.end();
    }

    private static void promise34Put() {
        MarketRings x = new MarketRings();
        Due.are("out of bounds", new long[] {x.put(-2), x.put(100), x.put(Integer.MIN_VALUE), x.put(Integer.MAX_VALUE)},
            -4, -6, -4, -6);
        for (int i = 1; i <= 48; i++) {
            Due.is("how many", x.put(i % 2 == 0 ? -1 : 99), i);
        }
        Due.are("no room", new long[] {x.put(0), x.put(-2), x.count(9)}, -6, -4, 48);
    }

    private static int judged(MarketRings x, int... row) {
        for (int v : row) {
            x.put(v);
        }
        return x.judge();
    }

    private static void promise35Judge() {
        MarketRings x = Due.land("000/000");
        x.market(0);
        x.use(0, 1, 0, 0, 10);
        x.use(0, 1, 0, 0, 0);
        x.price(0, 0, 3);
        x.price(1, 0, 1);
        x.held(10, true);
        // 300 less 10 a step: line 0 goes 0, held, 0 or 1 (even: 0); line 1 goes 0 0 1.
        x.toll(10, 1);
        // Acre 20 goes by the toll or around it: 1.
        Due.is("all are", judged(x, 0, -1, 1, 0, 0, 1), -9);
        Due.is("the row has none then", x.count(9), 0);
        Due.is("nothing told", judged(x), 0);
        Due.is("too short", judged(x, 0, -1), 20);
        Due.is("too short by a line", judged(x, 0, -1, 1), 1);
        Due.is("too short by one", judged(x, 0, -1, 1, 0, 0), 21);
        Due.is("too long", judged(x, 0, -1, 1, 0, 0, 1, 1), 99);
        Due.is("too long and wrong", judged(x, 0, -1, 1, 0, -1, 1, 1), 11);
        Due.is("the first wrong one, line by line", judged(x, 0, -1, 0, 1, 0, 1), 20);
        Due.is("a held acre goes to none", judged(x, 0, 0), 10);
        Due.is("none is wrong where one is", judged(x, -1), 0);
        Due.is("no such use", judged(x, 7), 0);
    }

    private static void promise36And37Image() {
        MarketRings x = Due.land("12/34");
        Due.is("no image", x.on(), -3);
        x.market(0);
        x.use(3, 1, 1, 2, 4);
        x.year(0, 9);
        x.price(0, 0, 20);
        x.piece(0, 0, 7, 8);
        x.tax(0, 3);
        x.tax(-1, 4);
        x.step(0, 11);
        x.toll(10, 5);
        x.road(0, 10, 3);
        x.plan(0, 1, 2, 3);
        x.own(11, 2);
        x.held(1, true);
        long rents = x.rent(-1);
        Due.is("image", x.image(), 4);
        x.market(10);
        x.use(0, 50, 0, 0, 0);
        x.year(0, 90);
        x.price(0, 0, 21);
        x.price(1, 1, 600);
        x.piece(0, 0, 1, 1);
        x.tax(0, 30);
        x.tax(-1, 40);
        x.step(0, 12);
        x.toll(10, 50);
        x.road(0, 10, 2);
        x.road(0, 1, 2);
        x.plan(10, 11, 2, 3);
        x.own(11, 1);
        x.held(1, false);
        x.feed(2, 0x3231);
        x.put(3);
        Due.is("on", x.on(), 4);
        Due.are("counts", new long[] {x.count(0), x.count(1), x.count(2), x.count(3), x.count(4), x.count(5),
            x.count(7)}, 2, 2, 1, 1, 1, 1, 1);
        Due.are("not the tape and the row", new long[] {x.count(8), x.count(9)}, 2, 1);
        Due.is("rents", x.rent(-1), rents);
        Due.are("land", new long[] {x.acre(11, 3), x.acre(1, 2), x.acre(10, 1), x.acre(10, 4), x.acre(11, 0),
            x.road(10, 0, 3)}, 2, 1, 5, -9, 4, 3);
        Due.are("uses", new long[] {x.year(0, 1), x.price(0, 0, 1), x.piece(0, 0, 1, 1), x.bought(0, 0, 8),
            x.tax(0, 1), x.tax(-1, 1), x.step(0, 1)}, 2, 20, 2, 7, 3, 4, 11);
        Due.is("market 1 has no price from then", x.market(10), 1);
        x.use(0, 1, 0, 0, 0);
        Due.is("nor has use 1", x.price(1, 1, 0), 0);
    }

    private static void promise37On() {
        MarketRings x = Due.land("00");
        x.market(0);
        x.use(0, 1, 0, 0, 1);
        x.price(0, 0, 9);
        x.image();
        x.price(0, 0, 0);
        Due.is("no rents", x.rent(-1), 0);
        Due.is("on", x.on(), 2);
        Due.is("rents", x.rent(-1), 1790);
        x.price(0, 0, 5);
        Due.is("other rents", x.rent(-1), 990);
        Due.is("on once more", x.on(), 2);
        Due.is("rents once more", x.rent(-1), 1790);
        x.price(0, 0, 4);
        Due.is("another image", x.image(), 2);
        x.price(0, 0, 3);
        x.on();
        Due.is("the later image", x.price(0, 0, 0), 4);
        x.year(0, 0);
        x.on();
        Due.are("refusals stay counted", new long[] {x.count(13), x.count(11)}, 1, 0);
    }

    private static void promise37OfARead() {
        MarketRings x = Due.land("00/00/00");
        x.market(12);
        x.market(1);
        x.use(0, 1, 0, 0, 1);
        x.price(0, 0, 5);
        x.plan(2, 12, 2, 0);
        x.plan(0, 1, 3, 9);
        x.road(11, 12, 3);
        x.own(12, 3);
        x.step(2, 4);
        x.step(3, 5);
        x.image();
        Due.are("gains", new long[] {x.gain(0), x.gain(1), x.best(99999)}, 8, 5 - 900, 3);
        Due.feed(x, "9999");
        Due.is("another land", x.read(), 4);
        x.market(30);
        x.market(20);
        x.step(2, 44);
        x.step(3, 55);
        for (int i = 0; i < 3; i++) {
            x.plan(10 * i + 10, 10 * i, 1, 77);
        }
        Due.are("judged there", new long[] {x.judge(), x.rent(-1)}, 0, 4 * 500 - 60);
        Due.is("on", x.on(), 6);
        Due.are("as then", new long[] {x.count(0), x.count(1), x.count(2), x.count(5), x.acre(0, 0), x.acre(12, 3),
            x.acre(12, 4), x.acre(1, 4), x.way(0, 12), x.way(11, 12)}, 2, 3, 2, 2, 0, 3, 0, 1, 25, 5);
        Due.are("gains as then", new long[] {x.gain(0), x.gain(1), x.best(99999)}, 8, 5 - 900, 3);
        Due.are("steps as then", new long[] {x.step(0, 10), x.step(1, 6), x.step(2, 3), x.step(3, 2)}, 10, 6, 4, 5);
        x.put(0);
        x.put(0);
        x.put(0);
        Due.is("acres by line", x.judge(), 11);
        Due.is("image of another land", x.image(), 6);
        MarketRings y = Due.land("00000000/00000000/00000000/00000000/00000000/00000000");
        y.road(75, 65, 3);
        y.step(3, 1);
        Due.is("a wide one", y.image(), 48);
        y.road(75, 65, 1);
        y.step(3, 2);
        y.on();
        Due.are("its last corner", new long[] {y.way(75, 65), y.way(65, 75)}, 1, 10);
    }

    private static void promise38Count() {
        MarketRings x = Due.land("000/000");
        x.market(0);
        x.market(10);
        x.use(0, 1, 0, 0, 10);
        x.price(0, 0, 1);
        x.road(20, 21, 1);
        x.road(21, 11, 3);
        x.road(1, 11, 2);
        x.plan(0, 1, 1, 5);
        x.held(0, true);
        x.feed(3, 0);
        x.put(1);
        x.put(2);
        // Only the held acre 0 could go: 100 less 10 for each of the way.
        Due.are("counts", new long[] {x.count(0), x.count(1), x.count(2), x.count(3), x.count(4), x.count(5), x.count(6),
            x.count(7), x.count(8), x.count(9)}, 3, 2, 2, 1, 3, 1, 6, 1, 3, 2);
        x.held(0, false);
        Due.are("waste", new long[] {x.count(6), x.count(7)}, 5, 0);
        x.acre(99, 0);
        x.acre(99, 0);
        x.acre(0, 9);
        x.on();
        x.put(-2);
        x.put(-2);
        x.put(-2);
        x.put(100);
        x.rent(99);
        x.edge(0, 0, 3);
        Due.are("refusals", new long[] {x.count(11), x.count(12), x.count(13), x.count(14), x.count(15), x.count(16)},
            3, 2, 1, 3, 0, 1);
        Due.are("another what", new long[] {x.count(10), x.count(17), x.count(-1), x.count(Integer.MAX_VALUE),
            x.count(Integer.MIN_VALUE)}, -9, -9, -9, -9, -9);
        Due.is("which is none", x.count(12), 2);
    }
}
