/** Promises 26 to 29, sentence by sentence: the edges that the document names. */
public final class PlansBoundsTest {
    public static void main(String[] args) {
        Each.run(PlansBoundsTest.class);
    }

    /** Four acres in a line to the market on the first: rents are 1000 less 10 for each of the way. */
    private static MarketRings line() {
        MarketRings x = Due.land("0000");
        x.market(0);
        x.use(0, 1, 0, 0, 10);
        x.price(0, 0, 10);
        return x;
    }

    private static MarketRings eightPlans() {
        MarketRings x = Due.land("000/000/000");
        x.market(0);
        x.use(0, 1, 0, 0, 10);
        x.price(0, 0, 10);
        x.road(21, 22, 1);
        for (int i = 0; i < 6; i++) {
            x.plan(i / 3 * 10 + i % 3, i / 3 * 10 + 10 + i % 3, 1 + i % 3, i);
        }
        x.plan(0, 1, 1, 6);
        x.plan(1, 2, 1, 7);
        Due.is("eight", x.count(5), 8);
        return x;
    }

    // Promise 26: plans.

    private static void promise26TheLeastAndTheGreatestKind() {
        MarketRings x = line();
        Due.are("road and river", new long[] {x.plan(10, 0, 1, 0), x.plan(10, 0, 3, 0)}, 0, 1);
        // The way to the market gets shorter by 4, or by 8, for three acres.
        Due.are("as such", new long[] {x.gain(0), x.gain(1)}, 120, 240);
    }

    private static void promise26KindsBesideThese() {
        Twins.refused("plan(10, 11, 0, 1)", -2, Twins::busy, x -> x.plan(10, 11, 0, 1));
        Twins.refused("plan(10, 11, 4, 1)", -2, Twins::busy, x -> x.plan(10, 11, 4, 1));
        Twins.refused("plan(10, 11, -1, 1)", -2, Twins::busy, x -> x.plan(10, 11, -1, 1));
        Twins.refused("plan(10, 11, least, 1)", -2, Twins::busy, x -> x.plan(10, 11, Integer.MIN_VALUE, 1));
    }

    private static void promise26TheLeastAndTheGreatestCost() {
        MarketRings x = line();
        Due.are("0 and 99999", new long[] {x.plan(10, 0, 1, 0), x.plan(10, 0, 1, 99999)}, 0, 1);
        Due.are("taken off", new long[] {x.gain(0), x.gain(1)}, 120, 120 - 9999900);
    }

    private static void promise26Below() {
        Twins.refused("plan(10, 11, 1, -1)", -4, Twins::busy, x -> x.plan(10, 11, 1, -1));
        Twins.refused("plan(10, 11, 1, least)", -4, Twins::busy, x -> x.plan(10, 11, 1, Integer.MIN_VALUE));
    }

    private static void promise26Above() {
        Twins.refused("plan(10, 11, 1, 100000)", -6, Twins::busy, x -> x.plan(10, 11, 1, 100000));
        Twins.refused("plan(10, 11, 1, greatest)", -6, Twins::busy, x -> x.plan(10, 11, 1, Integer.MAX_VALUE));
    }

    private static void promise26EightPlans() {
        MarketRings x = line();
        for (int i = 0; i < 8; i++) {
            Due.is("number", x.plan(10 * (i % 3) + 10, 10 * (i % 3), 2, i), i);
        }
        Due.is("eight", x.count(5), 8);
        Due.are("each is there", new long[] {x.gain(0), x.gain(1), x.gain(6), x.gain(7)}, 210, 140 - 100, 210 - 600, 140 - 700);
    }

    private static void promise26ANinthPlan() {
        Twins.refused("plan(11, 12, 1, 1) of eight", -6, PlansBoundsTest::eightPlans, x -> x.plan(11, 12, 1, 1));
    }

    private static void promise26ThereIsARoad() {
        Twins.refused("plan(0, 10, 1, 1)", -3, Twins::busy, x -> x.plan(0, 10, 1, 1));
        Twins.refused("plan(10, 0, 3, 0)", -3, Twins::busy, x -> x.plan(10, 0, 3, 0));
        MarketRings x = Twins.busy();
        x.road(0, 10, 0);
        Due.is("none any more", x.plan(0, 10, 1, 1), 1);
    }

    private static void promise26NoSuchAcre() {
        Twins.refused("plan(10, 20, 1, 1)", -1, Twins::busy, x -> x.plan(10, 20, 1, 1));
        Twins.refused("plan(20, 10, 1, 1)", -1, Twins::busy, x -> x.plan(20, 10, 1, 1));
        Twins.refused("plan(1, 2, 1, 1)", -1, Twins::busy, x -> x.plan(1, 2, 1, 1));
        Twins.refused("plan(-1, 0, 1, 1)", -1, Twins::busy, x -> x.plan(-1, 0, 1, 1));
    }

    private static void promise26NotBesideEachOther() {
        Twins.refused("plan(0, 11, 1, 1)", -1, Twins::busy, x -> x.plan(0, 11, 1, 1));
        Twins.refused("plan(0, 0, 1, 1)", -1, Twins::busy, x -> x.plan(0, 0, 1, 1));
        Twins.refused("plan(10, 30, 1, 1), two away", -1, PlansBoundsTest::line, x -> x.plan(10, 30, 1, 1));
    }

    private static void promise26NoAcresComeFirst() {
        Twins.refused("plan(0, 11, 0, 1)", -1, Twins::busy, x -> x.plan(0, 11, 0, 1));
        Twins.refused("plan(0, 11, 1, -1)", -1, Twins::busy, x -> x.plan(0, 11, 1, -1));
        Twins.refused("plan(0, 11, 1, 100000)", -1, Twins::busy, x -> x.plan(0, 11, 1, 100000));
        Twins.refused("plan(0, 11, 1, 1) of eight", -1, PlansBoundsTest::eightPlans, x -> x.plan(0, 11, 1, 1));
    }

    private static void promise26KindsComeBeforeCosts() {
        Twins.refused("plan(10, 11, 4, -1)", -2, Twins::busy, x -> x.plan(10, 11, 4, -1));
        Twins.refused("plan(10, 11, 0, 100000)", -2, Twins::busy, x -> x.plan(10, 11, 0, 100000));
    }

    private static void promise26KindsComeBeforeRoomAndRoads() {
        Twins.refused("plan(11, 12, 0, 1) of eight", -2, PlansBoundsTest::eightPlans, x -> x.plan(11, 12, 0, 1));
        Twins.refused("plan(0, 10, 0, 1)", -2, Twins::busy, x -> x.plan(0, 10, 0, 1));
    }

    private static void promise26BelowComesBeforeRoomAndRoads() {
        Twins.refused("plan(11, 12, 1, -1) of eight", -4, PlansBoundsTest::eightPlans, x -> x.plan(11, 12, 1, -1));
        Twins.refused("plan(0, 10, 1, -1)", -4, Twins::busy, x -> x.plan(0, 10, 1, -1));
    }

    private static void promise26AboveAndRoomComeBeforeRoads() {
        Twins.refused("plan(0, 10, 1, 100000)", -6, Twins::busy, x -> x.plan(0, 10, 1, 100000));
        Twins.refused("plan(21, 22, 1, 1) of eight", -6, PlansBoundsTest::eightPlans, x -> x.plan(21, 22, 1, 1));
    }

    private static void promise26APlanIsNoRoadYet() {
        MarketRings x = line();
        x.plan(10, 0, 2, 0);
        Due.are("as before", new long[] {x.way(10, 0), x.count(4), x.rent(-1), x.road(10, 0, 0)}, 10, 0, 3400, 0);
    }

    // Promise 27: gains.

    private static void promise27NoSuchPlan() {
        Twins.refusedLong("gain(1) of one", -1, Twins::busy, x -> x.gain(1));
        Twins.refusedLong("gain(-1)", -1, Twins::busy, x -> x.gain(-1));
        Twins.refusedLong("gain(8) of eight", -1, PlansBoundsTest::eightPlans, x -> x.gain(8));
        Twins.refusedLong("gain(greatest)", -1, Twins::busy, x -> x.gain(Integer.MAX_VALUE));
    }

    /** As busy, with a road where the plan is. */
    private static MarketRings built() {
        MarketRings x = Twins.busy();
        x.road(1, 0, 1);
        return x;
    }

    private static void promise27ThereIsARoadNow() {
        Twins.refusedLong("gain(0)", -3, PlansBoundsTest::built, x -> x.gain(0));
        MarketRings x = line();
        x.plan(10, 0, 1, 0);
        x.road(0, 10, 3);
        Due.refuses("by a river the other way", x.gain(0), -3);
        x.road(0, 10, 0);
        Due.is("and none any more", x.gain(0), 120);
    }

    private static void promise27NothingChanges() {
        Twins.changesNothing("gain(0)", 210, PlansBoundsTest::planned, x -> x.gain(0));
        Twins.changesNothing("gain(2)", 40 - 300, PlansBoundsTest::planned, x -> x.gain(2));
    }

    /** A rail to the market, for 1; a rail and a road farther out for 2 and 3. */
    private static MarketRings planned() {
        MarketRings x = line();
        x.plan(10, 0, 2, 0);
        x.plan(20, 10, 2, 2);
        x.plan(30, 20, 1, 3);
        return x;
    }

    private static void promise27OfThisPlanAlone() {
        MarketRings x = planned();
        Due.are("gains", new long[] {x.gain(0), x.gain(1), x.gain(2)}, 210, 140 - 200, 40 - 300);
    }

    private static void promise27OfNoRents() {
        MarketRings x = Due.land("00");
        x.plan(0, 10, 1, 7);
        Due.is("the cost alone", x.gain(0), -700);
        MarketRings y = Due.land("00");
        y.plan(0, 10, 1, 0);
        Due.is("nothing", y.gain(0), 0);
    }

    private static void promise27RentsLessRentTax() {
        MarketRings x = planned();
        x.tax(-1, 100);
        Due.is("nothing is left", x.gain(0), 0);
        x.tax(-1, 50);
        Due.are("half of it; the cost is whole", new long[] {x.gain(0), x.gain(1)}, 105, 70 - 200);
    }

    private static void promise27WhoGoesToNoneMayComeByIt() {
        MarketRings x = line();
        x.price(0, 0, 2);
        x.plan(10, 0, 2, 0);
        // 200 and 100 without; 200, 170 and 70 with it.
        Due.is("a third one", x.gain(0), 140);
    }

    // Promise 28: the best set.

    private static void promise28TheLeastSum() {
        MarketRings x = planned();
        Due.is("what costs nothing", x.best(0), 1);
        Due.is("of one acre", new MarketRings().best(0), 0);
    }

    private static void promise28TheGreatestSum() {
        MarketRings x = line();
        x.plan(10, 0, 1, 99999);
        Due.are("all of it, or 1 less", new long[] {x.best(99999), x.best(99998)}, 1, 0);
    }

    private static void promise28Below() {
        Twins.refused("best(-1)", -4, Twins::busy, x -> x.best(-1));
        Twins.refused("best(least)", -4, Twins::busy, x -> x.best(Integer.MIN_VALUE));
    }

    private static void promise28Above() {
        Twins.refused("best(100000)", -6, Twins::busy, x -> x.best(100000));
        Twins.refused("best(greatest)", -6, Twins::busy, x -> x.best(Integer.MAX_VALUE));
    }

    private static void promise28ThereIsARoadNow() {
        Twins.refused("best(5)", -3, PlansBoundsTest::built, x -> x.best(5));
        MarketRings x = eightPlans();
        Due.is("none is there", x.best(0), 1);
        x.road(1, 2, 1);
        Due.is("the last plan's", x.best(0), -3);
    }

    private static void promise28NumbersComeBeforeRoads() {
        Twins.refused("best(-1)", -4, PlansBoundsTest::built, x -> x.best(-1));
        Twins.refused("best(100000)", -6, PlansBoundsTest::built, x -> x.best(100000));
    }

    private static void promise28WithinTheSum() {
        MarketRings x = planned();
        // 0 costs nothing and brings 210, 1 costs 2 and brings 140, 2 costs 3 and brings 40.
        Due.are("sums", new long[] {x.best(1), x.best(2), x.best(3), x.best(4), x.best(5), x.best(6)}, 1, 3, 3, 3, 7, 7);
    }

    private static void promise28NotLessTheCosts() {
        MarketRings x = line();
        x.plan(30, 20, 1, 90000);
        Due.is("40 for 90000", x.best(90000), 1);
    }

    private static void promise28OfSeveralTheLeastCosts() {
        MarketRings x = line();
        x.plan(10, 0, 2, 9);
        x.plan(0, 10, 2, 8);
        Due.are("8", new long[] {x.best(99), x.best(8)}, 2, 2);
        MarketRings y = line();
        y.plan(0, 10, 3, 1);
        Due.is("none that only costs", y.best(99), 0);
    }

    private static void promise28ThenTheLeastSet() {
        MarketRings x = line();
        x.plan(10, 0, 2, 8);
        x.plan(0, 10, 2, 8);
        Due.is("the first", x.best(99), 1);
        MarketRings y = line();
        y.plan(0, 10, 3, 0);
        y.plan(10, 0, 2, 0);
        // The river's other way helps none, and the rail behind it takes its place.
        Due.is("the second alone", y.best(99), 2);
    }

    private static void promise28BuiltByTheOrderOfNumbers() {
        MarketRings x = line();
        x.plan(10, 0, 2, 0);
        x.plan(0, 10, 3, 0);
        // Built behind the rail, the river takes its place, and it helps none who goes to the market.
        Due.is("the rail alone", x.best(0), 1);
        MarketRings y = line();
        y.plan(30, 20, 1, 1);
        y.plan(10, 0, 1, 1);
        y.plan(10, 0, 2, 0);
        Due.is("the road and then the rail are as good as the rail", y.best(9), 5);
    }

    private static void promise28EightPlans() {
        MarketRings x = Due.land("00000000/00000000");
        x.market(0);
        x.use(0, 1, 0, 0, 1);
        x.price(0, 0, 10);
        for (int i = 0; i < 7; i++) {
            x.plan(10 * i + 10, 10 * i, 2, 0);
        }
        x.plan(1, 0, 2, 0);
        Due.is("all", x.best(0), 255);
    }

    private static void promise28NothingChanges() {
        Twins.changesNothing("best(3)", 3, PlansBoundsTest::planned, x -> x.best(3));
    }

    private static void promise28GreatRentsDoNotWrapAround() {
        MarketRings x = Due.land("99999999/99999999/99999999");
        x.market(0);
        x.use(0, 99, 99, 0, 99);
        x.price(0, 0, 948);
        x.plan(10, 0, 2, 0);
        // 2146597200 without it is below 2 to the power of 31, what it brings is above.
        Due.are("with it", new long[] {x.rent(-1), x.best(0)}, 2146597200L, 1);
        Due.is("21 acres by 7", x.gain(0), 21L * 7 * 990 * 99);
        Due.is("none loses", x.losers(0), 0);
    }

    // Promise 29: losers.

    private static void promise29NoSuchPlan() {
        Twins.refused("losers(1) of one", -1, Twins::busy, x -> x.losers(1));
        Twins.refused("losers(-1)", -1, Twins::busy, x -> x.losers(-1));
        Twins.refused("losers(8) of eight", -1, PlansBoundsTest::eightPlans, x -> x.losers(8));
    }

    private static void promise29ThereIsARoadNow() {
        Twins.refused("losers(0)", -3, PlansBoundsTest::built, x -> x.losers(0));
    }

    private static void promise29OfThisPlanAlone() {
        MarketRings x = line();
        x.step(1, 11);
        x.plan(10, 0, 1, 0);
        x.plan(20, 10, 1, 0);
        x.plan(30, 20, 1, 0);
        x.plan(30, 20, 2, 0);
        Due.are("losers", new long[] {x.losers(0), x.losers(1), x.losers(2), x.losers(3)}, 3, 2, 1, 0);
    }

    private static void promise29NoneLoses() {
        MarketRings x = planned();
        Due.are("by a rail", new long[] {x.losers(0), x.losers(1), x.losers(2)}, 0, 0, 0);
        MarketRings y = Due.land("00");
        y.plan(0, 10, 1, 0);
        Due.is("without rents", y.losers(0), 0);
    }

    private static void promise29TheSameRentIsNotLess() {
        MarketRings x = line();
        x.step(1, 10);
        x.plan(10, 0, 1, 0);
        Due.is("as far as before", x.losers(0), 0);
    }

    private static void promise29ALittleLess() {
        MarketRings x = line();
        x.step(1, 11);
        x.plan(10, 0, 1, 0);
        Due.are("all beyond it", new long[] {x.losers(0), x.gain(0)}, 3, -30);
        x.tax(-1, 100);
        Due.is("of nothing nothing is lost", x.losers(0), 0);
    }

    private static void promise29WhoFallsWasteLosesToo() {
        MarketRings x = line();
        x.price(0, 0, 2);
        x.step(1, 99);
        x.plan(10, 0, 1, 0);
        Due.are("the second acre", new long[] {x.losers(0), x.gain(0)}, 1, -100);
    }

    private static void promise29NothingChanges() {
        Twins.changesNothing("losers(0)", 0, PlansBoundsTest::planned, x -> x.losers(0));
        Twins.changesNothing("losers(2)", 0, PlansBoundsTest::planned, x -> x.losers(2));
    }

    private static void promise29AllOfTheGreatestLand() {
        MarketRings x = Due.land("00000000/00000000/00000000/00000000/00000000/00000000");
        x.market(0);
        x.held(1, true);
        x.use(0, 1, 0, 0, 1);
        x.price(0, 0, 10);
        x.toll(1, 99);
        x.step(1, 20);
        x.plan(10, 0, 1, 0);
        // All but the market's own acre and the one with a toll come by acre 10.
        Due.is("losers", x.losers(0), 46);
    }
}
