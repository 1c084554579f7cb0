/** Promises 1 to 9, 31 and 32, sentence by sentence: the edges that the document names. */
public final class LandBoundsTest {
    private static final String GREATEST = "01234567/11111111/22222222/33333333/44444444/89012345";

    public static void main(String[] args) {
        Each.run(LandBoundsTest.class);
    }

    private static int refusals(MarketRings x) {
        int sum = 0;
        for (int what = 11; what <= 16; what++) {
            sum += x.count(what);
        }
        return sum;
    }

    // Promise 1: what is there when nothing has come yet.

    private static void promise1OneAcre() {
        MarketRings x = new MarketRings();
        Due.are("wide and high", new long[] {x.count(0), x.count(1)}, 1, 1);
        Due.is("acre 0", x.acre(0, 0), 0);
        Due.is("none to the right", x.acre(10, 0), -1);
        Due.is("none below", x.acre(1, 0), -1);
    }

    private static void promise1TheAcreIsBare() {
        MarketRings x = new MarketRings();
        Due.are("toll, held, owner, market", new long[] {x.acre(0, 1), x.acre(0, 2), x.acre(0, 3), x.acre(0, 4)},
            0, 0, -9, -9);
    }

    private static void promise1ItWasSoForOwnerAndHeld() {
        MarketRings x = new MarketRings();
        Due.are("own, held, toll", new long[] {x.own(0, -1), x.held(0, false), x.toll(0, 0)}, 0, 0, 0);
    }

    private static void promise1NothingIsCounted() {
        MarketRings x = new MarketRings();
        Due.are("counts", new long[] {x.count(2), x.count(3), x.count(4), x.count(5), x.count(6), x.count(7), x.count(8),
            x.count(9)}, 0, 0, 0, 0, 1, 0, 0, 0);
        Due.is("refusals", refusals(x), 0);
    }

    private static void promise1TheAcreGoesToNone() {
        MarketRings x = new MarketRings();
        Due.are("goes", new long[] {x.goes(0, 0), x.goes(0, 1)}, -9, -9);
        Due.are("rents", new long[] {x.rent(0), x.rent(-1)}, 0, 0);
        Due.are("borders, best, rounds, judged", new long[] {x.borders(), x.best(99999), x.rounds(20), x.judge()}, 0, 0, 1, 0);
    }

    private static void promise1NoUse() {
        MarketRings x = new MarketRings();
        x.market(0);
        Due.are("of use 0", new long[] {x.year(0, 0), x.price(0, 0, 0), x.tax(0, 0), x.comes(0, 0), x.piece(0, 0, 0, 0),
            x.bought(0, 0, 0), x.clears(0, 0), x.out(0), x.falls(0, 0)}, -1, -1, -1, -1, -1, -1, -1, -1, -1);
        Due.refuses("bid", x.bid(0, 0, 0), -1);
        Due.is("no ring", x.ring(0, 0), -9);
    }

    private static void promise1NoMarket() {
        MarketRings x = new MarketRings();
        x.use(0, 1, 0, 0, 0);
        Due.are("at market 0", new long[] {x.price(0, 0, 0), x.comes(0, 0), x.piece(0, 0, 0, 0), x.bought(0, 0, 0),
            x.clears(0, 0)}, -1, -1, -1, -1, -1);
        Due.refuses("bid", x.bid(0, 0, 0), -1);
        Due.is("ring", x.ring(0, 0), -3);
        Due.are("out, falls", new long[] {x.out(0), x.falls(0, 9999)}, -9, 0);
    }

    private static void promise1NoPlan() {
        MarketRings x = new MarketRings();
        Due.refuses("gain", x.gain(0), -1);
        Due.is("losers", x.losers(0), -1);
    }

    private static void promise1NoOwner() {
        MarketRings x = new MarketRings();
        Due.are("hold", new long[] {x.hold(0), x.hold(1), x.hold(2), x.hold(3)}, -9, -9, -9, -9);
    }

    private static void promise1NoImageNoTape() {
        MarketRings x = new MarketRings();
        Due.is("on", x.on(), -3);
        Due.is("an empty tape", x.read(), -20);
    }

    private static void promise1ObjectsAreApart() {
        MarketRings x = Twins.busy();
        MarketRings y = new MarketRings();
        Due.are("another one", new long[] {y.count(0), y.count(2), y.count(3), y.count(4), y.count(5), y.count(8), y.count(9),
            y.tax(-1, 0), y.step(2, 3), y.on()}, 1, 0, 0, 0, 0, 0, 0, 0, 3, -3);
        Due.are("the first", new long[] {x.count(0), x.tax(-1, 0), x.step(2, 3), x.count(13)}, 2, 10, 4, 0);
    }

    // Promise 2: the tape.

    private static void promise2OneByteIsTheLeast() {
        MarketRings x = new MarketRings();
        Due.is("one", x.feed(1, 0x39_38L), 1);
        Due.is("the lowest", x.read(), 1);
        Due.is("alone", x.acre(0, 0), 8);
    }

    private static void promise2NoByteIsBelow() {
        Twins.refused("feed(0, 49)", -4, Twins::busy, x -> x.feed(0, 49));
        Twins.refused("feed(-1, 49)", -4, Twins::busy, x -> x.feed(-1, 49));
        Twins.refused("feed(least, 49)", -4, Twins::busy, x -> x.feed(Integer.MIN_VALUE, 49));
    }

    private static void promise2EightBytesAreTheGreatest() {
        MarketRings x = new MarketRings();
        Due.is("eight", x.feed(8, 0x38_37_36_35_34_33_32_31L), 8);
        Due.is("read", x.read(), 8);
        Due.are("the lowest first", new long[] {x.acre(0, 0), x.acre(10, 0), x.acre(20, 0), x.acre(30, 0), x.acre(40, 0),
            x.acre(50, 0), x.acre(60, 0), x.acre(70, 0)}, 1, 2, 3, 4, 5, 6, 7, 8);
    }

    private static void promise2NineBytesAreAbove() {
        Twins.refused("feed(9, 49)", -6, Twins::busy, x -> x.feed(9, 49));
        Twins.refused("feed(greatest, 49)", -6, Twins::busy, x -> x.feed(Integer.MAX_VALUE, 49));
    }

    private static void promise2WhatIsAboveTheBytesDoesNotCome() {
        MarketRings x = new MarketRings();
        Due.is("two of them", x.feed(2, 0x7FFFFFFFFFFF3231L), 2);
        Due.is("one more", x.feed(1, 0xFFFFFFFFFFFFFF33L), 3);
        Due.is("read", x.read(), 3);
        Due.are("soils", new long[] {x.acre(0, 0), x.acre(10, 0), x.acre(20, 0)}, 1, 2, 3);
    }

    private static void promise2BytesHaveNoSign() {
        MarketRings x = new MarketRings();
        Due.is("the highest", x.feed(8, 0xB130303030303030L), 8);
        Due.is("is no digit", x.read(), -27);
        x.feed(2, 0xFF30L);
        Due.is("nor is 255", x.read(), -21);
    }

    /** A tape with so many bytes, all of them digits. */
    private static MarketRings taped(int many) {
        MarketRings x = new MarketRings();
        for (int i = 0; i < many / 8; i++) {
            x.feed(8, 0x3030303030303030L);
        }
        if (many % 8 > 0) {
            x.feed(many % 8, 0x3030303030303030L);
        }
        return x;
    }

    private static void promise2SixtyBytesAreTaken() {
        MarketRings x = taped(52);
        Due.is("52", x.count(8), 52);
        Due.is("60", x.feed(8, 0), 60);
        MarketRings y = taped(59);
        Due.is("one by one", y.feed(1, 0), 60);
        Due.is("on the tape", y.count(8), 60);
    }

    private static void promise2OneAboveSixtyIsRefused() {
        Twins.refused("feed(1, 49) onto 60", -6, () -> taped(60), x -> x.feed(1, 49));
        Twins.refused("feed(8, 49) onto 60", -6, () -> taped(60), x -> x.feed(8, 49));
    }

    private static void promise2NoneOfTooManyComes() {
        Twins.refused("feed(8, 49) onto 53", -6, () -> taped(53), x -> x.feed(8, 49));
        MarketRings x = taped(53);
        x.feed(8, 0);
        Due.is("room for less is there", x.feed(7, 0), 60);
    }

    private static void promise2BelowComesBeforeRoom() {
        Twins.refused("feed(0, 0) onto 60", -4, () -> taped(60), x -> x.feed(0, 0));
    }

    private static void promise2AReadTapeHasRoomAgain() {
        MarketRings x = taped(60);
        x.read();
        Due.is("eight of sixty", x.feed(8, 0), 8);
        MarketRings y = Due.land("00");
        Due.is("behind a land, too", y.feed(3, 0), 3);
    }

    // Promise 3: texts and their faults.

    private static void fault(String text, int place) {
        MarketRings x = Due.fed(text);
        Due.is("read of '" + text + "'", x.read(), -20 - place);
    }

    private static void promise3EmptyTextIsTooShort() {
        fault("", 0);
    }

    private static void promise3SlashFirst() {
        fault("/", 0);
        fault("/0", 0);
    }

    private static void promise3DigitsFrom0To9() {
        MarketRings x = Due.land("09/90");
        Due.are("soils", new long[] {x.acre(0, 0), x.acre(10, 0), x.acre(1, 0), x.acre(11, 0)}, 0, 9, 9, 0);
    }

    private static void promise3BytesBesideTheDigits() {
        fault("0.", 1);
        fault("0:", 1);
        fault("0 ", 1);
        fault("0\u0000", 1);
        fault("0\u00ff", 1);
        fault("0\u00b0", 1);
        fault("0\n0", 1);
        fault("0-1", 1);
    }

    private static void promise3EightAcresAreTaken() {
        Due.is("wide", Due.land("12345678").count(0), 8);
        Due.is("one alone", Due.land("7").count(0), 1);
    }

    private static void promise3ANinthAcreIsTheFault() {
        fault("123456789", 8);
        fault("1234567890", 8);
        fault("12345678x", 8);
        fault("12345678/123456789", 17);
    }

    private static void promise3SixLinesAreTaken() {
        MarketRings x = Due.land("1/2/3/4/5/6");
        Due.are("high", new long[] {x.count(0), x.count(1), x.acre(5, 0), x.acre(6, 0)}, 1, 6, 6, -1);
    }

    private static void promise3ASeventhLineIsTheSlashAheadOfIt() {
        fault("1/2/3/4/5/6/", 11);
        fault("1/2/3/4/5/6/7", 11);
        fault("01/01/01/01/01/01/01", 17);
    }

    private static void promise3ALineLongerThanTheFirst() {
        fault("01/012", 5);
        fault("0/01", 3);
        fault("0/0/01/0", 5);
    }

    private static void promise3ALineShorterThanTheFirst() {
        fault("012/01/012", 6);
        fault("01/0", 4);
        fault("01/", 3);
        fault("01/01/", 6);
        fault("1234567/123456", 14);
    }

    private static void promise3AnEmptyLineBetween() {
        fault("01//01", 3);
        fault("0//", 2);
    }

    private static void promise3TheFirstOfTwoFaults() {
        fault("0x/y", 1);
        fault("01/0/x", 4);
        fault("01/x", 3);
        fault("123456789/:", 8);
    }

    private static void promise3TheGreatestLand() {
        MarketRings x = Due.land(GREATEST);
        Due.are("wide and high", new long[] {x.count(0), x.count(1)}, 8, 6);
        Due.are("corners", new long[] {x.acre(0, 0), x.acre(70, 0), x.acre(5, 0), x.acre(75, 0)}, 0, 7, 8, 5);
    }

    private static void promise3NothingFollowsTheGreatestLand() {
        fault(GREATEST + "0", 53);
        fault(GREATEST + "/", 53);
        fault(GREATEST + "/000000", 53);
    }

    private static void promise3LinesGoDownwards() {
        MarketRings x = Due.land("123/456");
        Due.are("soils", new long[] {x.acre(0, 0), x.acre(10, 0), x.acre(20, 0), x.acre(1, 0), x.acre(11, 0),
            x.acre(21, 0)}, 1, 2, 3, 4, 5, 6);
    }

    private static void promise3AFaultIsNotCounted() {
        MarketRings x = Due.fed("0x");
        x.read();
        x.read();
        Due.is("refusals", refusals(x), 0);
    }

    private static void promise3AFaultChangesTheTapeAlone() {
        Twins.changesNothing("read of a fault", -24, LandBoundsTest::untaped, x -> {
            x.feed(4, 0x30303030L);
            x.feed(1, 0x78);
            return x.read();
        });
        Twins.changesNothing("read of an empty tape", -20, LandBoundsTest::untaped, x -> x.read());
    }

    /** As busy, but with nothing on the tape. */
    private static MarketRings untaped() {
        MarketRings x = Twins.busy();
        x.image();
        x.read();
        x.on();
        return x;
    }

    private static void promise3TheTapeHasNoneByAFault() {
        MarketRings x = Due.fed("01x");
        x.read();
        Due.is("tape", x.count(8), 0);
        Due.feed(x, "12");
        Due.is("another text", x.read(), 2);
        Due.is("of its own", x.acre(0, 0), 1);
    }

    private static void promise3TheTapeHasNoneByALand() {
        MarketRings x = Due.land("12");
        Due.is("tape", x.count(8), 0);
        Due.is("nothing left to be read", x.read(), -20);
        Due.is("the land stays", x.acre(10, 0), 2);
    }

    /** As busy, behind another land of the same size. */
    private static MarketRings anew() {
        MarketRings x = untaped();
        x.feed(5, 0x38372F3635L);
        Due.is("read", x.read(), 4);
        return x;
    }

    private static void promise3SoilsAreNew() {
        MarketRings x = anew();
        Due.are("soils", new long[] {x.acre(0, 0), x.acre(10, 0), x.acre(1, 0), x.acre(11, 0)}, 5, 6, 7, 8);
    }

    private static void promise3MarketsAreNone() {
        MarketRings x = anew();
        Due.are("markets", new long[] {x.count(2), x.acre(0, 4), x.acre(11, 4), x.comes(0, 0)}, 0, -9, -9, -1);
        Due.is("from 0 on", x.market(11), 0);
    }

    private static void promise3NothingGoesToAMarketThatIsGone() {
        MarketRings x = Due.land("00");
        x.market(0);
        x.market(10);
        x.use(0, 1, 0, 0, 1);
        x.price(0, 0, 5);
        x.price(0, 1, 9);
        Due.are("to market 1", new long[] {x.goes(0, 1), x.goes(10, 1), x.rent(-1)}, 1, 1, 890 + 900);
        Due.feed(x, "00");
        x.read();
        Due.are("to none", new long[] {x.goes(0, 0), x.goes(10, 0), x.rent(-1), x.count(6), x.borders()}, -9, -9, 0, 2, 0);
        x.market(10);
        Due.are("to market 0", new long[] {x.goes(0, 1), x.goes(10, 1), x.rent(-1)}, 0, 0, 490 + 500);
    }

    private static void promise3RoadsAreNone() {
        MarketRings x = anew();
        Due.are("roads", new long[] {x.count(4), x.way(0, 10), x.road(0, 10, 0)}, 0, 10, 0);
    }

    private static void promise3TollsAreNone() {
        MarketRings x = anew();
        Due.are("tolls", new long[] {x.acre(0, 1), x.acre(10, 1), x.way(0, 10), x.toll(10, 0)}, 0, 0, 10, 0);
    }

    private static void promise3HeldAcresAreNone() {
        MarketRings x = anew();
        Due.are("held", new long[] {x.count(7), x.acre(1, 2), x.held(1, false)}, 0, 0, 0);
    }

    private static void promise3OwnersAreNone() {
        MarketRings x = anew();
        Due.are("owners", new long[] {x.acre(0, 3), x.acre(11, 3), x.acre(1, 3), x.own(0, -1)}, -9, -9, -9, 0);
    }

    private static void promise3PlansAreNone() {
        MarketRings x = anew();
        Due.are("plans", new long[] {x.count(5), x.losers(0), x.plan(0, 1, 1, 0)}, 0, -1, 0);
    }

    private static void promise3UsesStay() {
        MarketRings x = anew();
        x.market(0);
        Due.is("uses", x.count(3), 2);
        // Soil 5: yields 15; 33 is paid for each, cost 10 and tax 4.
        Due.is("as told", x.bid(0, 0, 0), 100 * (15 * 33 - 14));
        Due.is("their way", x.bid(0, 1, 0), 100 * (19 * 33 - 14) - 3 * 19 * 10);
    }

    private static void promise3PricesStay() {
        MarketRings x = anew();
        x.market(1);
        x.market(0);
        Due.are("prices", new long[] {x.price(0, 0, 0), x.price(1, 1, 0), x.price(0, 1, 0)}, 33, 35, 0);
    }

    private static void promise3PiecesStay() {
        MarketRings x = anew();
        x.market(1);
        x.market(0);
        Due.are("pieces", new long[] {x.bought(0, 0, 40), x.bought(0, 0, 41), x.piece(1, 1, 0, 0)}, 9, 0, 2);
    }

    private static void promise3YearsStay() {
        MarketRings x = anew();
        x.market(0);
        Due.is("their mean", x.bid(1, 0, 0), 100 * (9 * 7 - 5));
        Due.is("years", x.year(1, 0), 2);
    }

    private static void promise3StepsStay() {
        Due.is("step", anew().step(2, 3), 4);
    }

    private static void promise3TaxesStay() {
        MarketRings x = anew();
        Due.are("taxes", new long[] {x.tax(0, 0), x.tax(-1, 0)}, 4, 10);
    }

    private static void promise3TheRowStays() {
        MarketRings x = anew();
        Due.is("row", x.count(9), 2);
        x.held(0, true);
        Due.is("judged by the new land", x.judge(), 0);
    }

    private static void promise3TheImageStays() {
        MarketRings x = anew();
        Due.is("on", x.on(), 4);
        Due.are("the old land", new long[] {x.acre(0, 0), x.count(2), x.count(4), x.count(5), x.acre(1, 2)}, 1, 2, 1, 1, 1);
    }

    private static void promise3RefusalsStayCounted() {
        MarketRings x = Due.fed("12");
        x.acre(99, 0);
        x.read();
        Due.is("refusals", x.count(11), 1);
    }

    private static void promise3TheSameLandAgainIsNewToo() {
        MarketRings x = Due.land("00");
        x.toll(10, 5);
        x.market(0);
        Due.feed(x, "00");
        x.read();
        Due.are("toll and market", new long[] {x.acre(10, 1), x.count(2)}, 0, 0);
    }

    private static void promise3TheLastAcreIsBareAgain() {
        MarketRings x = Due.land(GREATEST);
        x.toll(75, 9);
        x.own(75, 3);
        x.held(75, true);
        x.road(75, 74, 2);
        x.road(65, 75, 2);
        x.plan(75, 74, 2, 1);
        x.market(75);
        Due.feed(x, GREATEST);
        x.read();
        Due.are("acre 75", new long[] {x.acre(75, 0), x.acre(75, 1), x.acre(75, 2), x.acre(75, 3), x.acre(75, 4)},
            5, 0, 0, -9, -9);
        Due.are("its roads", new long[] {x.way(75, 74), x.way(74, 75), x.way(65, 75), x.way(75, 65), x.count(5)},
            10, 10, 10, 10, 0);
    }

    private static void promise3ALesserLandHidesNothing() {
        MarketRings x = Due.land("00/00");
        x.toll(11, 9);
        x.own(11, 3);
        x.held(11, true);
        x.road(10, 11, 1);
        Due.feed(x, "0");
        x.read();
        Due.is("gone", x.acre(11, 0), -1);
        Due.feed(x, "00/00");
        x.read();
        Due.are("and not come back", new long[] {x.acre(11, 1), x.acre(11, 2), x.acre(11, 3), x.way(10, 11), x.count(7)},
            0, 0, -9, 10, 0);
    }

    // Promise 4: what is on an acre.

    private static void promise4TheLeastWhatIsTheSoil() {
        Due.is("soil", Due.land("47").acre(10, 0), 7);
    }

    private static void promise4TheGreatestWhatIsTheMarket() {
        MarketRings x = Due.land("47");
        x.market(10);
        Due.are("market", new long[] {x.acre(10, 4), x.acre(0, 4)}, 0, -9);
    }

    private static void promise4WhatBesideThese() {
        Twins.refused("acre(0, -1)", -2, Twins::busy, x -> x.acre(0, -1));
        Twins.refused("acre(0, 5)", -2, Twins::busy, x -> x.acre(0, 5));
        Twins.refused("acre(0, least)", -2, Twins::busy, x -> x.acre(0, Integer.MIN_VALUE));
        Twins.refused("acre(0, greatest)", -2, Twins::busy, x -> x.acre(0, Integer.MAX_VALUE));
    }

    private static void promise4AcresBesideTheLand() {
        Twins.refused("acre(20, 0)", -1, Twins::busy, x -> x.acre(20, 0));
        Twins.refused("acre(2, 0)", -1, Twins::busy, x -> x.acre(2, 0));
        Twins.refused("acre(9, 0)", -1, Twins::busy, x -> x.acre(9, 0));
        Twins.refused("acre(-1, 0)", -1, Twins::busy, x -> x.acre(-1, 0));
        Twins.refused("acre(-10, 0)", -1, Twins::busy, x -> x.acre(-10, 0));
        Twins.refused("acre(least, 0)", -1, Twins::busy, x -> x.acre(Integer.MIN_VALUE, 0));
        Twins.refused("acre(greatest, 0)", -1, Twins::busy, x -> x.acre(Integer.MAX_VALUE, 0));
    }

    private static void promise4AcresBesideTheGreatestLand() {
        MarketRings x = Due.land(GREATEST);
        Due.are("within", new long[] {x.acre(0, 0), x.acre(5, 0), x.acre(70, 0), x.acre(75, 0)}, 0, 8, 7, 5);
        Due.are("beside", new long[] {x.acre(6, 0), x.acre(76, 0), x.acre(79, 0), x.acre(80, 0), x.acre(85, 0),
            x.acre(-5, 0), x.acre(100, 0)}, -1, -1, -1, -1, -1, -1, -1);
    }

    private static void promise4NoAcreComesBeforeWhat() {
        Twins.refused("acre(20, 5)", -1, Twins::busy, x -> x.acre(20, 5));
        Twins.refused("acre(-1, -1)", -1, Twins::busy, x -> x.acre(-1, -1));
    }

    // Promise 5: roads.

    private static void promise5TheLeastAndTheGreatestKind() {
        MarketRings x = Due.land("00");
        Due.is("none", x.road(0, 10, 0), 0);
        Due.is("none is no road", x.count(4), 0);
        Due.is("road", x.road(0, 10, 1), 0);
        Due.is("river", x.road(0, 10, 3), 1);
        Due.is("none any more", x.road(0, 10, 0), 3);
        Due.is("none", x.count(4), 0);
    }

    private static void promise5KindsBesideThese() {
        Twins.refused("road(0, 1, -1)", -2, Twins::busy, x -> x.road(0, 1, -1));
        Twins.refused("road(0, 1, 4)", -2, Twins::busy, x -> x.road(0, 1, 4));
        Twins.refused("road(0, 10, 4)", -2, Twins::busy, x -> x.road(0, 10, 4));
        Twins.refused("road(0, 10, least)", -2, Twins::busy, x -> x.road(0, 10, Integer.MIN_VALUE));
    }

    private static void promise5NoSuchAcre() {
        Twins.refused("road(10, 20, 1)", -1, Twins::busy, x -> x.road(10, 20, 1));
        Twins.refused("road(20, 10, 1)", -1, Twins::busy, x -> x.road(20, 10, 1));
        Twins.refused("road(1, 2, 1)", -1, Twins::busy, x -> x.road(1, 2, 1));
        Twins.refused("road(0, -1, 1)", -1, Twins::busy, x -> x.road(0, -1, 1));
        Twins.refused("road(-10, 0, 1)", -1, Twins::busy, x -> x.road(-10, 0, 1));
        Twins.refused("road(20, 30, 1)", -1, Twins::busy, x -> x.road(20, 30, 1));
    }

    private static MarketRings wide() {
        return Due.land("000/000/000");
    }

    private static void promise5NotBesideEachOther() {
        Twins.refused("road(0, 0, 1)", -1, LandBoundsTest::wide, x -> x.road(0, 0, 1));
        Twins.refused("road(0, 11, 1), by a corner", -1, LandBoundsTest::wide, x -> x.road(0, 11, 1));
        Twins.refused("road(10, 1, 1), by a corner", -1, LandBoundsTest::wide, x -> x.road(10, 1, 1));
        Twins.refused("road(0, 20, 1), two away", -1, LandBoundsTest::wide, x -> x.road(0, 20, 1));
        Twins.refused("road(2, 0, 1), two away", -1, LandBoundsTest::wide, x -> x.road(2, 0, 1));
        Twins.refused("road(20, 1, 1), a line's end and the next one's beginning", -1, LandBoundsTest::wide,
            x -> x.road(20, 1, 1));
    }

    private static void promise5AllFourSides() {
        MarketRings x = wide();
        Due.are("laid", new long[] {x.road(11, 21, 1), x.road(11, 1, 1), x.road(11, 12, 1), x.road(11, 10, 1)}, 0, 0, 0, 0);
        Due.are("gone", new long[] {x.way(11, 21), x.way(11, 1), x.way(11, 12), x.way(11, 10)}, 6, 6, 6, 6);
        Due.are("and back", new long[] {x.way(21, 11), x.way(1, 11), x.way(12, 11), x.way(10, 11)}, 6, 6, 6, 6);
        Due.is("four", x.count(4), 4);
    }

    private static void promise5OneBetweenTwo() {
        MarketRings x = Due.land("00");
        Due.is("a road", x.road(0, 10, 1), 0);
        Due.is("a rail takes its place", x.road(0, 10, 2), 1);
        Due.is("told the other way round, too", x.road(10, 0, 1), 2);
        Due.is("one", x.count(4), 1);
        Due.is("taken away the other way round", x.road(0, 10, 0), 1);
        Due.is("none", x.count(4), 0);
    }

    private static void promise5ARiverOneWayOnly() {
        MarketRings x = Due.land("00/00");
        x.step(0, 11);
        x.road(1, 0, 3);
        Due.are("upwards", new long[] {x.way(1, 0), x.way(0, 1)}, 2, 11);
        x.road(10, 11, 3);
        Due.are("downwards", new long[] {x.way(10, 11), x.way(11, 10)}, 2, 11);
        x.road(10, 0, 3);
        Due.are("to the left", new long[] {x.way(10, 0), x.way(0, 10)}, 2, 11);
        x.road(1, 11, 3);
        Due.are("to the right", new long[] {x.way(1, 11), x.way(11, 1)}, 2, 11);
    }

    private static void promise5ARiverToldTheOtherWayRoundTurns() {
        MarketRings x = Due.land("00");
        x.road(0, 10, 3);
        Due.is("it was a river", x.road(10, 0, 3), 3);
        Due.are("turned", new long[] {x.way(10, 0), x.way(0, 10), x.count(4)}, 2, 10, 1);
    }

    private static void promise5ARoadGoesBothWaysAgain() {
        MarketRings x = Due.land("00");
        x.road(0, 10, 3);
        x.road(10, 0, 2);
        Due.are("rail", new long[] {x.way(10, 0), x.way(0, 10)}, 3, 3);
    }

    /** Twelve roads, all there is room for: between the acres of a square of nine. */
    private static MarketRings roads(int many) {
        MarketRings x = Due.land("0000/0000/0000");
        int laid = 0;
        for (int xy = 0; xy < 40 && laid < many; xy++) {
            if (xy % 10 < 2) {
                x.road(xy, xy + 1, 1 + laid % 3);
                laid++;
            }
            if (xy % 10 < 3 && xy < 30 && laid < many) {
                x.road(xy, xy + 10, 1 + laid % 3);
                laid++;
            }
        }
        Due.is("roads", x.count(4), many);
        return x;
    }

    private static void promise5TwelveRoads() {
        MarketRings x = roads(11);
        Due.is("the twelfth", x.road(31, 32, 2), 0);
        Due.are("it is there", new long[] {x.count(4), x.way(31, 32)}, 12, 3);
    }

    private static void promise5AThirteenthRoad() {
        Twins.refused("road(31, 32, 1)", -6, () -> roads(12), x -> x.road(31, 32, 1));
        Twins.refused("road(32, 31, 3)", -6, () -> roads(12), x -> x.road(32, 31, 3));
    }

    private static void promise5ALaterRoadNeedsNoRoom() {
        MarketRings x = roads(12);
        Due.is("the first one was", x.road(0, 1, 2), 1);
        Due.are("twelve", new long[] {x.count(4), x.way(0, 1)}, 12, 3);
    }

    private static void promise5NoneNeedsNoRoom() {
        Twins.changesNothing("road(31, 32, 0)", 0, () -> roads(12), x -> x.road(31, 32, 0));
    }

    private static void promise5RoomAgainWhenOneIsGone() {
        MarketRings x = roads(12);
        Due.is("one less", x.road(0, 1, 0), 1);
        Due.is("eleven", x.count(4), 11);
        Due.is("room for it", x.road(31, 32, 1), 0);
        Due.is("twelve", x.count(4), 12);
    }

    private static void promise5NoAcresComeBeforeKinds() {
        Twins.refused("road(0, 20, 4)", -1, LandBoundsTest::wide, x -> x.road(0, 20, 4));
        Twins.refused("road(99, 0, -1)", -1, LandBoundsTest::wide, x -> x.road(99, 0, -1));
    }

    private static void promise5NoAcresComeBeforeRoom() {
        Twins.refused("road(0, 20, 1) of twelve", -1, () -> roads(12), x -> x.road(0, 20, 1));
    }

    private static void promise5KindsComeBeforeRoom() {
        Twins.refused("road(31, 32, 4) of twelve", -2, () -> roads(12), x -> x.road(31, 32, 4));
    }

    // Promise 6: steps.

    private static void promise6FirstSteps() {
        MarketRings x = Due.land("00");
        Due.is("none", x.way(0, 10), 10);
        x.road(0, 10, 1);
        Due.is("road", x.way(0, 10), 6);
        x.road(0, 10, 2);
        Due.is("rail", x.way(0, 10), 3);
        x.road(0, 10, 3);
        Due.is("river", x.way(0, 10), 2);
    }

    private static void promise6TheLeastStep() {
        MarketRings x = Due.land("00");
        Due.are("1", new long[] {x.step(0, 1), x.step(1, 1), x.step(2, 1), x.step(3, 1)}, 10, 6, 3, 2);
        Due.are("what it was", new long[] {x.step(0, 2), x.step(1, 2), x.step(2, 2), x.step(3, 2)}, 1, 1, 1, 1);
    }

    private static void promise6TheGreatestStep() {
        MarketRings x = Due.land("00");
        Due.are("99", new long[] {x.step(0, 99), x.step(1, 99), x.step(2, 99), x.step(3, 99)}, 10, 6, 3, 2);
        Due.is("way", x.way(0, 10), 99);
        Due.are("what it was", new long[] {x.step(0, 2), x.step(1, 2), x.step(2, 2), x.step(3, 2)}, 99, 99, 99, 99);
    }

    private static void promise6KindsBesideThese() {
        Twins.refused("step(-1, 5)", -2, Twins::busy, x -> x.step(-1, 5));
        Twins.refused("step(4, 5)", -2, Twins::busy, x -> x.step(4, 5));
        Twins.refused("step(greatest, 5)", -2, Twins::busy, x -> x.step(Integer.MAX_VALUE, 5));
        Twins.refused("step(least, 5)", -2, Twins::busy, x -> x.step(Integer.MIN_VALUE, 5));
    }

    private static void promise6Below() {
        Twins.refused("step(0, 0)", -4, Twins::busy, x -> x.step(0, 0));
        Twins.refused("step(3, -1)", -4, Twins::busy, x -> x.step(3, -1));
        Twins.refused("step(3, least)", -4, Twins::busy, x -> x.step(3, Integer.MIN_VALUE));
    }

    private static void promise6Above() {
        Twins.refused("step(0, 100)", -6, Twins::busy, x -> x.step(0, 100));
        Twins.refused("step(3, 100)", -6, Twins::busy, x -> x.step(3, 100));
        Twins.refused("step(3, greatest)", -6, Twins::busy, x -> x.step(3, Integer.MAX_VALUE));
    }

    private static void promise6KindsComeFirst() {
        Twins.refused("step(4, 0)", -2, Twins::busy, x -> x.step(4, 0));
        Twins.refused("step(-1, 100)", -2, Twins::busy, x -> x.step(-1, 100));
    }

    // Promise 7: tolls.

    private static void promise7TheLeastAndTheGreatestToll() {
        MarketRings x = Due.land("00");
        Due.are("what it was", new long[] {x.toll(10, 0), x.toll(10, 99), x.acre(10, 1), x.toll(10, 0), x.acre(10, 1)},
            0, 0, 99, 99, 0);
        x.toll(10, 99);
        Due.is("paid", x.way(0, 10), 109);
    }

    private static void promise7Below() {
        Twins.refused("toll(0, -1)", -4, Twins::busy, x -> x.toll(0, -1));
        Twins.refused("toll(0, least)", -4, Twins::busy, x -> x.toll(0, Integer.MIN_VALUE));
    }

    private static void promise7Above() {
        Twins.refused("toll(0, 100)", -6, Twins::busy, x -> x.toll(0, 100));
        Twins.refused("toll(0, greatest)", -6, Twins::busy, x -> x.toll(0, Integer.MAX_VALUE));
    }

    private static void promise7NoSuchAcre() {
        Twins.refused("toll(20, 1)", -1, Twins::busy, x -> x.toll(20, 1));
        Twins.refused("toll(2, 1)", -1, Twins::busy, x -> x.toll(2, 1));
        Twins.refused("toll(-1, 1)", -1, Twins::busy, x -> x.toll(-1, 1));
    }

    private static void promise7NoAcreComesFirst() {
        Twins.refused("toll(20, -1)", -1, Twins::busy, x -> x.toll(20, -1));
        Twins.refused("toll(20, 100)", -1, Twins::busy, x -> x.toll(20, 100));
    }

    private static void promise7PaidByWhoGoesIn() {
        MarketRings x = Due.land("000");
        x.toll(10, 7);
        Due.are("in, out and through", new long[] {x.way(0, 10), x.way(10, 0), x.way(0, 20)}, 17, 10, 27);
    }

    // Promise 8: ways.

    private static void promise8ToItself() {
        MarketRings x = Due.land("00");
        x.toll(0, 99);
        x.road(0, 10, 2);
        Due.are("0", new long[] {x.way(0, 0), x.way(10, 10)}, 0, 0);
        Due.is("on the only acre", new MarketRings().way(0, 0), 0);
    }

    private static void promise8NoSuchAcre() {
        Twins.refused("way(20, 0)", -1, Twins::busy, x -> x.way(20, 0));
        Twins.refused("way(0, 20)", -1, Twins::busy, x -> x.way(0, 20));
        Twins.refused("way(0, -1)", -1, Twins::busy, x -> x.way(0, -1));
        Twins.refused("way(20, 20), once", -1, Twins::busy, x -> x.way(20, 20));
    }

    private static void promise8TheLongestWay() {
        MarketRings x = Due.land(GREATEST);
        x.step(0, 99);
        for (int xy = 0; xy < 80; xy++) {
            if (xy % 10 < 6) {
                x.toll(xy, 99);
            }
        }
        Due.are("from corner to corner", new long[] {x.way(0, 75), x.way(75, 0), x.way(5, 70)}, 2376, 2376, 2376);
    }

    private static void promise8TheLeastOfTwo() {
        MarketRings x = Due.land("00/00");
        x.toll(10, 4);
        x.toll(1, 5);
        Due.is("by the lesser toll", x.way(0, 11), 24);
        x.road(0, 1, 2);
        Due.is("by rail", x.way(0, 11), 3 + 5 + 10);
        x.toll(1, 12);
        Due.is("as dear", x.way(0, 11), 24);
        x.toll(1, 11);
        Due.is("a little less", x.way(0, 11), 24);
        x.toll(1, 10);
        Due.is("less", x.way(0, 11), 23);
    }

    private static void promise8ADetourByRoads() {
        MarketRings x = Due.land("000/000");
        x.step(2, 1);
        x.road(0, 1, 2);
        x.road(1, 11, 2);
        x.road(11, 21, 2);
        x.road(21, 20, 2);
        Due.are("around", new long[] {x.way(0, 20), x.way(20, 0), x.way(0, 10)}, 4, 4, 10);
        x.step(2, 6);
        Due.is("straight on", x.way(0, 20), 20);
    }

    // Promise 9: markets.

    private static void promise9NumbersFrom0On() {
        MarketRings x = Due.land("000");
        Due.are("three", new long[] {x.market(20), x.market(0), x.market(10)}, 0, 1, 2);
        Due.is("counted", x.count(2), 3);
    }

    private static MarketRings markets() {
        MarketRings x = Due.land("000/000");
        x.use(0, 1, 0, 0, 1);
        x.market(20);
        x.market(0);
        x.market(10);
        return x;
    }

    private static void promise9AFourth() {
        Twins.refused("market(21)", -6, LandBoundsTest::markets, x -> x.market(21));
    }

    private static void promise9NoTwoOnOne() {
        Twins.refused("market(0)", -3, Twins::busy, x -> x.market(0));
        Twins.refused("market(11)", -3, Twins::busy, x -> x.market(11));
    }

    private static void promise9NoSuchAcre() {
        Twins.refused("market(20)", -1, Twins::busy, x -> x.market(20));
        Twins.refused("market(2)", -1, Twins::busy, x -> x.market(2));
        Twins.refused("market(-1)", -1, Twins::busy, x -> x.market(-1));
    }

    private static void promise9NoAcreComesBeforeRoom() {
        Twins.refused("market(30) of three", -1, LandBoundsTest::markets, x -> x.market(30));
    }

    private static void promise9ThereIsOneComesBeforeRoom() {
        Twins.refused("market(10) of three", -3, LandBoundsTest::markets, x -> x.market(10));
    }

    private static void promise9OnAHeldAcreToo() {
        MarketRings x = Due.land("00");
        x.held(10, true);
        Due.is("market", x.market(10), 0);
    }

    private static void promise9APriceOf0AtFirst() {
        MarketRings x = Twins.busy();
        Due.is("market 2", x.market(10), 2);
        Due.are("prices", new long[] {x.price(0, 2, 1), x.price(1, 2, 1), x.bought(0, 2, 0)}, 0, 0, 0);
    }

    // Promise 31: owners.

    private static void promise31TheLeastAndTheGreatestOwner() {
        MarketRings x = Due.land("00");
        Due.are("0", new long[] {x.own(10, 0), x.acre(10, 3)}, 1, 0);
        Due.are("3", new long[] {x.own(10, 3), x.acre(10, 3)}, 1, 3);
        Due.are("none", new long[] {x.own(10, -1), x.acre(10, 3)}, 1, -9);
        Due.is("not the other", x.acre(0, 3), -9);
    }

    private static void promise31ItWasSo() {
        Twins.changesNothing("own(0, 1)", 0, Twins::busy, x -> x.own(0, 1));
        Twins.changesNothing("own(10, -1)", 0, Twins::busy, x -> x.own(10, -1));
    }

    private static void promise31Below() {
        Twins.refused("own(0, -2)", -4, Twins::busy, x -> x.own(0, -2));
        Twins.refused("own(10, -9)", -4, Twins::busy, x -> x.own(10, -9));
        Twins.refused("own(0, least)", -4, Twins::busy, x -> x.own(0, Integer.MIN_VALUE));
    }

    private static void promise31Above() {
        Twins.refused("own(0, 4)", -6, Twins::busy, x -> x.own(0, 4));
        Twins.refused("own(0, greatest)", -6, Twins::busy, x -> x.own(0, Integer.MAX_VALUE));
    }

    private static void promise31NoSuchAcre() {
        Twins.refused("own(20, 0)", -1, Twins::busy, x -> x.own(20, 0));
        Twins.refused("own(2, 0)", -1, Twins::busy, x -> x.own(2, 0));
        Twins.refused("own(-1, 0)", -1, Twins::busy, x -> x.own(-1, 0));
    }

    private static void promise31NoAcreComesFirst() {
        Twins.refused("own(20, -2)", -1, Twins::busy, x -> x.own(20, -2));
        Twins.refused("own(20, 4)", -1, Twins::busy, x -> x.own(20, 4));
    }

    // Promise 32: held acres.

    private static void promise32HeldOrNot() {
        MarketRings x = Due.land("00");
        Due.are("held", new long[] {x.held(10, true), x.acre(10, 2), x.acre(0, 2), x.count(7)}, 1, 1, 0, 1);
        Due.are("not", new long[] {x.held(10, false), x.acre(10, 2), x.count(7)}, 1, 0, 0);
    }

    private static void promise32ItWasSo() {
        Twins.changesNothing("held(1, true)", 0, Twins::busy, x -> x.held(1, true));
        Twins.changesNothing("held(0, false)", 0, Twins::busy, x -> x.held(0, false));
    }

    private static void promise32HeldAcresAreGoneThrough() {
        MarketRings x = Due.land("000");
        x.market(0);
        x.use(0, 1, 0, 0, 1);
        x.price(0, 0, 1);
        x.toll(10, 3);
        x.held(10, true);
        Due.are("way and bid", new long[] {x.way(20, 0), x.bid(0, 20, 0), x.goes(20, 0)}, 23, 77, 0);
    }

    private static void promise32NoSuchAcre() {
        Twins.refused("held(20, true)", -1, Twins::busy, x -> x.held(20, true));
        Twins.refused("held(2, false)", -1, Twins::busy, x -> x.held(2, false));
        Twins.refused("held(-1, true)", -1, Twins::busy, x -> x.held(-1, true));
    }

    private static void promise32AllOfTheGreatestLand() {
        MarketRings x = Due.land(GREATEST);
        for (int xy = 0; xy < 80; xy++) {
            if (xy % 10 < 6) {
                Due.is("held " + xy, x.held(xy, true), 1);
            }
        }
        Due.are("48", new long[] {x.count(7), x.count(6)}, 48, 48);
    }
}
