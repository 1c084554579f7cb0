/** Promises 1 to 9, 31 and 32: the tape, the land, roads, ways, markets, owners, held acres. */
public final class LandTest {
    public static void main(String[] args) {
        promise1NewObject();
        promise2Feed();
        promise3Faults();
        promise3WhatStays();
        promise4Acre();
        promise5Road();
        promise5Refusals();
        promise6Step();
        promise7Toll();
        promise8Way();
        promise8Detours();
        promise9Market();
        promise31Own();
        promise32Held();
        Due.end();
    }

    private static void promise1NewObject() {
        MarketRings x = new MarketRings();
        Due.are("new", new long[] {x.count(0), x.count(1), x.count(2), x.count(3), x.count(4), x.count(5), x.count(6),
            x.count(7), x.count(8), x.count(9)}, 1, 1, 0, 0, 0, 0, 1, 0, 0, 0);
        Due.are("its acre", new long[] {x.acre(0, 0), x.acre(0, 1), x.acre(0, 2), x.acre(0, 3), x.acre(0, 4)},
            0, 0, 0, -9, -9);
        Due.is("no other acre right", x.acre(10, 0), -1);
        Due.is("no other acre below", x.acre(1, 0), -1);
        Due.is("rent of none", x.rent(-1), 0);
        Due.are("steps", new long[] {x.step(0, 1), x.step(1, 1), x.step(2, 1), x.step(3, 1)}, 10, 6, 3, 2);
        Due.is("rent tax", x.tax(-1, 5), 0);
    }

    private static void promise2Feed() {
        MarketRings x = new MarketRings();
        Due.are("n too small", new long[] {x.feed(0, 1), x.feed(-1, 1), x.feed(Integer.MIN_VALUE, 1)}, -4, -4, -4);
        Due.are("n too great", new long[] {x.feed(9, 1), x.feed(Integer.MAX_VALUE, 1)}, -6, -6);
        Due.is("the tape has none yet", x.count(8), 0);
        // 0x33 0x32 0x31 behind a byte that does not come any more.
        Due.is("three bytes, the lowest first", x.feed(3, 0x39_31_32_33L), 3);
        Due.is("read", x.read(), 3);
        Due.are("soils", new long[] {x.acre(0, 0), x.acre(10, 0), x.acre(20, 0)}, 3, 2, 1);
        for (int i = 1; i <= 7; i++) {
            Due.is("eight more", x.feed(8, -1L), 8 * i);
        }
        Due.is("above 60", x.feed(5, 0), -6);
        Due.is("60", x.feed(4, 0), 60);
        Due.is("one above", x.feed(1, 0), -6);
        Due.is("too small comes first", x.feed(0, 0), -4);
        Due.is("tape", x.count(8), 60);
        Due.is("bytes that are no digits", x.read(), -20);
        Due.is("tape, emptied", x.count(8), 0);
        Due.is("refusals below", x.count(14), 4);
        Due.is("refusals of room", x.count(16), 4);
    }

    private static void fault(String text, int place) {
        MarketRings x = Due.fed(text);
        Due.is("read of '" + text + "'", x.read(), -20 - place);
        Due.is("tape behind '" + text + "'", x.count(8), 0);
        int refused = 0;
        for (int what = 11; what <= 16; what++) {
            refused += x.count(what);
        }
        Due.is("refusals behind '" + text + "'", refused, 0);
        Due.is("land behind '" + text + "'", x.count(0) * 10 + x.count(1), 11);
    }

    private static void promise3Faults() {
        fault("", 0);
        fault("/", 0);
        fault("a", 0);
        fault("0a", 1);
        fault("1 2", 1);
        fault("12:", 2);
        fault("123456789", 8);
        fault("12345678/123456789", 17);
        fault("01/", 3);
        fault("01/2", 4);
        fault("01/234", 5);
        fault("012/01/345", 6);
        fault("01//01", 3);
        fault("0/1/2/3/4/5/", 11);
        fault("0/1/2/3/4/5/6", 11);
        fault("0/1/2/3/4/5x", 11);
        fault("01/23/4", 7);
        fault("01/\u00b1", 3);
        Due.is("the greatest land", Due.land("01234567/11111111/22222222/33333333/44444444/55555555").count(0), 8);
        MarketRings x = Due.land("01234567/11111111/22222222/33333333/44444444/56789012");
        Due.are("its corners", new long[] {x.count(1), x.acre(0, 0), x.acre(70, 0), x.acre(5, 0), x.acre(75, 0),
            x.acre(80, 0), x.acre(6, 0)}, 6, 0, 7, 5, 2, -1, -1);
    }

    private static void promise3WhatStays() {
        MarketRings x = Due.land("00/00");
        x.market(0);
        x.market(10);
        x.use(0, 1, 0, 7, 2);
        x.use(3, 1, 0, 0, 2);
        x.year(1, 5);
        x.price(0, 0, 44);
        x.price(0, 1, 45);
        x.piece(0, 1, 3, 4);
        x.step(0, 9);
        x.tax(0, 6);
        x.tax(-1, 50);
        x.toll(1, 5);
        x.road(0, 10, 1);
        x.plan(0, 1, 2, 3);
        x.own(11, 2);
        x.held(11, true);
        x.put(3);
        Due.feed(x, "90/12/7");
        Due.is("a fault", x.read(), -27);
        Due.are("what a fault leaves", new long[] {x.count(0), x.count(1), x.count(2), x.count(4), x.count(5),
            x.count(7), x.acre(1, 1), x.acre(11, 3)}, 2, 2, 2, 1, 1, 1, 5, 2);
        Due.feed(x, "90/12/71");
        Due.is("a land", x.read(), 6);
        Due.are("what is gone", new long[] {x.count(0), x.count(1), x.count(2), x.count(4), x.count(5), x.count(7),
            x.acre(1, 1), x.acre(11, 3), x.acre(11, 2), x.acre(0, 4)}, 2, 3, 0, 0, 0, 0, 0, -9, 0, -9);
        Due.are("soils", new long[] {x.acre(0, 0), x.acre(10, 0), x.acre(1, 0), x.acre(11, 0), x.acre(2, 0),
            x.acre(12, 0)}, 9, 0, 1, 2, 7, 1);
        Due.is("no road any more", x.road(0, 10, 0), 0);
        Due.is("ways on the new land", x.way(2, 10), 9 + 9 + 9);
        Due.are("row and uses", new long[] {x.count(9), x.count(3)}, 1, 2);
        Due.is("no market has a price", x.price(0, 0, 1), -1);
        Due.are("markets", new long[] {x.market(2), x.market(12)}, 0, 1);
        Due.are("prices", new long[] {x.price(0, 0, 44), x.price(0, 1, 45)}, 44, 45);
        Due.is("pieces", x.piece(0, 1, 1, 1), 2);
        Due.is("years", x.year(1, 5), 2);
        Due.are("steps and taxes", new long[] {x.step(0, 9), x.tax(0, 6), x.tax(-1, 50)}, 9, 6, 50);
    }

    private static void promise4Acre() {
        MarketRings x = Due.land("47/31");
        x.market(10);
        x.market(1);
        x.toll(10, 99);
        x.held(10, true);
        x.own(10, 0);
        Due.are("acre 10", new long[] {x.acre(10, 0), x.acre(10, 1), x.acre(10, 2), x.acre(10, 3), x.acre(10, 4)},
            7, 99, 1, 0, 0);
        Due.are("acre 1", new long[] {x.acre(1, 0), x.acre(1, 1), x.acre(1, 2), x.acre(1, 3), x.acre(1, 4)},
            3, 0, 0, -9, 1);
        Due.are("no such acre", new long[] {x.acre(20, 0), x.acre(2, 0), x.acre(9, 0), x.acre(-1, 0), x.acre(-10, 0),
            x.acre(Integer.MAX_VALUE, 0), x.acre(Integer.MIN_VALUE, 0)}, -1, -1, -1, -1, -1, -1, -1);
        Due.are("another what", new long[] {x.acre(0, 5), x.acre(0, -1)}, -2, -2);
        Due.is("no acre comes first", x.acre(99, 5), -1);
    }

    private static void promise5Road() {
        MarketRings x = Due.land("000/000");
        Due.is("none yet", x.road(0, 10, 0), 0);
        Due.is("a road", x.road(0, 10, 1), 0);
        Due.is("a rail in its place, from the other side", x.road(10, 0, 2), 1);
        Due.is("one only", x.count(4), 1);
        Due.is("a river in its place", x.road(0, 10, 3), 2);
        Due.is("way down", x.way(0, 10), 2);
        Due.is("way up", x.way(10, 0), 10);
        Due.is("the river turned", x.road(10, 0, 3), 3);
        Due.is("way down", x.way(10, 0), 2);
        Due.is("way up", x.way(0, 10), 10);
        Due.is("none any more, told from the other side", x.road(0, 10, 0), 3);
        Due.are("none", new long[] {x.count(4), x.way(10, 0), x.way(0, 10)}, 0, 10, 10);
        MarketRings y = Due.land("00000000/00000000/00000000");
        y.road(72, 71, 2);
        Due.is("a rail in the last corner", y.way(71, 72), 3);
        Due.feed(y, "00000000/00000000/00000000");
        y.read();
        Due.is("not on the next land", y.way(71, 72), 10);
        Due.is("one downwards", x.road(11, 10, 1), 0);
        Due.is("upwards the same", x.road(10, 11, 1), 1);
    }

    private static void promise5Refusals() {
        MarketRings x = Due.land("0000/0000/0000");
        Due.are("not beside each other", new long[] {x.road(0, 20, 1), x.road(0, 11, 1), x.road(0, 0, 1),
            x.road(0, 2, 1), x.road(30, 1, 1), x.road(-1, 0, 1), x.road(0, 3, 1), x.road(40, 30, 1)},
            -1, -1, -1, -1, -1, -1, -1, -1);
        Due.are("another kind", new long[] {x.road(0, 10, 4), x.road(0, 10, -1)}, -2, -2);
        Due.is("no acres come first", x.road(0, 20, 4), -1);
        int laid = 0;
        for (int x1 = 0; x1 < 4; x1++) {
            for (int y = 0; y < 3; y++) {
                if (y < 2) {
                    laid += x.road(10 * x1 + y, 10 * x1 + y + 1, 1) == 0 ? 1 : 0;
                }
                if (y == 0 && x1 < 3) {
                    laid += x.road(10 * x1, 10 * x1 + 10, 2) == 0 ? 1 : 0;
                }
            }
        }
        Due.is("eleven", laid, 11);
        Due.is("the twelfth", x.road(2, 12, 3), 0);
        Due.is("a thirteenth", x.road(12, 22, 1), -6);
        Due.is("another kind comes first", x.road(12, 22, 4), -2);
        Due.is("none instead of none", x.road(12, 22, 0), 0);
        Due.is("a later one in the place of the twelfth", x.road(12, 2, 1), 3);
        Due.is("twelve", x.count(4), 12);
        Due.is("one less", x.road(12, 2, 0), 1);
        Due.is("room again", x.road(12, 22, 1), 0);
        Due.is("refusals of room", x.count(16), 1);
    }

    private static void promise6Step() {
        MarketRings x = Due.land("00");
        Due.are("the first numbers", new long[] {x.step(0, 99), x.step(1, 1), x.step(2, 50), x.step(3, 7)}, 10, 6, 3, 2);
        Due.is("step", x.way(0, 10), 99);
        x.road(0, 10, 1);
        Due.is("by road", x.way(0, 10), 1);
        x.road(0, 10, 2);
        Due.is("by rail", x.way(10, 0), 50);
        x.road(0, 10, 3);
        Due.are("by river", new long[] {x.way(0, 10), x.way(10, 0)}, 7, 99);
        Due.are("what it was", new long[] {x.step(0, 10), x.step(1, 6), x.step(2, 3), x.step(3, 2)}, 99, 1, 50, 7);
        Due.are("by river again", new long[] {x.way(0, 10), x.way(10, 0)}, 2, 10);
        x.step(3, 9);
        Due.is("at once", x.way(0, 10), 9);
        x.step(3, 2);
        Due.are("another kind", new long[] {x.step(4, 5), x.step(-1, 5), x.step(9, 0)}, -2, -2, -2);
        Due.are("below", new long[] {x.step(0, 0), x.step(3, Integer.MIN_VALUE)}, -4, -4);
        Due.are("above", new long[] {x.step(0, 100), x.step(3, Integer.MAX_VALUE)}, -6, -6);
        Due.is("nothing changed", x.step(0, 1), 10);
    }

    private static void promise7Toll() {
        MarketRings x = Due.land("00");
        Due.are("what it was", new long[] {x.toll(10, 99), x.toll(10, 0), x.toll(10, 4)}, 0, 99, 0);
        Due.are("paid going in", new long[] {x.way(0, 10), x.way(10, 0)}, 14, 10);
        Due.are("no acre", new long[] {x.toll(1, 5), x.toll(-1, 5), x.toll(20, -1)}, -1, -1, -1);
        Due.are("below", new long[] {x.toll(0, -1), x.toll(0, Integer.MIN_VALUE)}, -4, -4);
        Due.are("above", new long[] {x.toll(0, 100), x.toll(0, Integer.MAX_VALUE)}, -6, -6);
        Due.is("nothing changed", x.acre(0, 1), 0);
    }

    private static void promise8Way() {
        MarketRings x = Due.land("0000");
        Due.is("without roads", x.way(0, 30), 30);
        x.road(0, 10, 1);
        x.road(20, 10, 2);
        x.road(20, 30, 3);
        Due.are("with roads", new long[] {x.way(0, 30), x.way(30, 0)}, 6 + 3 + 2, 10 + 3 + 6);
        x.toll(0, 40);
        x.toll(20, 7);
        x.toll(30, 1);
        Due.are("with tolls", new long[] {x.way(0, 30), x.way(30, 0)}, 11 + 8, 19 + 47);
        Due.is("to itself", x.way(0, 0), 0);
        Due.are("no acre", new long[] {x.way(0, 40), x.way(40, 0), x.way(-1, -1), x.way(1, 0)}, -1, -1, -1, -1);
        Due.is("refused", x.count(11), 4);
    }

    private static void promise8Detours() {
        MarketRings x = Due.land("000/000");
        x.toll(10, 25);
        Due.is("around a toll", x.way(0, 20), 40);
        x.toll(20, 9);
        Due.is("the toll of the end is paid", x.way(0, 20), 49);
        Due.is("the toll of the beginning is not", x.way(20, 0), 40);
        x.toll(10, 19);
        Due.is("straight through a lesser toll", x.way(20, 0), 39);
        x.step(1, 50);
        x.road(0, 1, 1);
        x.road(0, 10, 1);
        Due.is("a slow road is not walked beside", x.way(1, 0), 50);
        // A long row that winds: walls of tolls leave one way only.
        MarketRings y = Due.land("00000/00000/00000/00000/00000");
        for (int i = 0; i < 4; i++) {
            y.toll(10 * i + 1, 99);
            y.toll(10 * (i + 1) + 3, 99);
        }
        Due.is("winding", y.way(0, 4), 40 + 20 + 40 + 20);
        y.toll(2, 60);
        Due.is("winding, with a toll at the turn", y.way(0, 4), 180);
        y.toll(2, 99);
        y.toll(1, 39);
        Due.is("straight through the wall", y.way(0, 4), 40 + 39 + 99);
        Due.is("the gap's own end", y.way(0, 41), 50);
    }

    private static void promise9Market() {
        MarketRings x = Due.land("0000");
        Due.are("no acre", new long[] {x.market(1), x.market(-1), x.market(40)}, -1, -1, -1);
        Due.are("numbers", new long[] {x.market(20), x.market(0)}, 0, 1);
        Due.is("there is one", x.market(20), -3);
        Due.is("the third", x.market(30), 2);
        Due.is("no room", x.market(10), -6);
        Due.is("there is one, before no room", x.market(0), -3);
        Due.is("no acre, before no room", x.market(50), -1);
        Due.are("on acres", new long[] {x.acre(0, 4), x.acre(10, 4), x.acre(20, 4), x.acre(30, 4)}, 1, -9, 0, 2);
        Due.is("three", x.count(2), 3);
    }

    private static void promise31Own() {
        MarketRings x = Due.land("00");
        Due.are("told", new long[] {x.own(0, -1), x.own(0, 3), x.own(0, 3), x.acre(0, 3), x.own(0, 0), x.acre(0, 3),
            x.own(0, -1), x.acre(0, 3)}, 0, 1, 0, 3, 1, 0, 1, -9);
        Due.are("no acre", new long[] {x.own(20, 0), x.own(-1, 9)}, -1, -1);
        Due.are("below", new long[] {x.own(0, -2), x.own(0, Integer.MIN_VALUE)}, -4, -4);
        Due.are("above", new long[] {x.own(0, 4), x.own(0, Integer.MAX_VALUE)}, -6, -6);
        Due.is("nothing changed", x.acre(0, 3), -9);
    }

    private static void promise32Held() {
        MarketRings x = Due.land("00");
        x.market(0);
        x.use(0, 1, 0, 0, 0);
        x.price(0, 0, 1);
        Due.are("told", new long[] {x.held(10, false), x.held(10, true), x.held(10, true), x.acre(10, 2), x.goes(10, 0),
            x.goes(0, 0), x.count(7), x.held(10, false), x.acre(10, 2), x.goes(10, 0), x.count(7)},
            0, 1, 0, 1, -9, 0, 1, 1, 0, 0, 0);
        Due.are("no acre", new long[] {x.held(20, true), x.held(-1, false)}, -1, -1);
    }
}
