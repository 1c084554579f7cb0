/** Rings around a market: who pays most for each acre of a land, and what follows from it. */
public final class MarketRings {
    private static final int NOBODY = -1;
    private static final int OTHER = -2;
    private static final int STATE = -3;
    private static final int BELOW = -4;
    private static final int ROOM = -6;
    private static final int NONE = -9;
    private static final long LONG_REFUSALS = 4000000000000000000L;
    private static final int FAULTS = -20;
    private static final int BEHIND_ALL = 99;

    private static final int MOST_WIDE = 8;
    private static final int MOST_HIGH = 6;
    private static final int PLACES = MOST_WIDE * MOST_HIGH;
    private static final int NOWHERE = -1;
    private static final int SIDES = 4;
    private static final int RIVER = 3;
    /** How a river is kept in the list of the acre at its lower end: a road, but no help. */
    private static final int UPSTREAM = 4;
    private static final int MOST_ROADS = 12;
    private static final int MOST_MARKETS = 3;
    private static final int MOST_PLANS = 8;

    private static final int MOST_USES = 6;
    private static final int WALKING = 1;
    private static final int FRESH = 2;
    private static final int TURN = 3;
    private static final int HOUSE = 4;
    private static final int WASTE = 5;
    private static final int FRESH_WAY = 60;
    private static final int FOOT_STEP = 10;
    private static final int OFFERS = MOST_USES * MOST_MARKETS;
    private static final int MOST_PIECES = 6;
    private static final int MOST_YEARS = 6;
    private static final int MOST_PRICE = 999;
    private static final int MOST_TAX = 9999;
    private static final int MOST_COST = 9999;
    private static final int MOST_MUCH = 9999;
    private static final int MOST_PLAN_COST = 99999;
    private static final int MOST_OWNER = 3;
    private static final int MOST_ROUNDS = 20;
    private static final int MOST_RING = 9;
    private static final int MOST_SOIL = 9;

    private final Tape tape = new Tape();
    private final Row row = new Row();
    private final Offers offers = new Offers();
    private final World world = offers.world;
    private final Land land = world.land;
    private final Uses uses = world.uses;
    private final Plans plans = world.plans;
    private final World kept = new World();
    private boolean isKept = false;
    private final Trade trade = new Trade();
    private final Works works = new Works();
    private final Rings rings = new Rings();
    private final int[] refusals = new int[7];

    public MarketRings() {
    }

    public int feed(int n, long bytes) {
        if (n < 1) {
            return refuse(BELOW);
        }
        if (n > 8 || tape.length + n > Tape.MOST) {
            return refuse(ROOM);
        }
        tape.append(n, bytes);
        return tape.length;
    }

    public int read() {
        int fault = tape.firstFault();
        if (fault != NOWHERE) {
            tape.length = 0;
            return FAULTS - fault;
        }
        land.layOut(tape);
        plans.number = 0;
        tape.length = 0;
        offers.forgetWays();
        return land.acres;
    }

    public int acre(int xy, int what) {
        int place = land.placeOf(xy);
        if (place == NOWHERE) {
            return refuse(NOBODY);
        }
        switch (what) {
            case 0:
                return land.soils[place];
            case 1:
                return land.tolls[place];
            case 2:
                return land.idle[place];
            case 3:
                return land.owners[place] < 0 ? NONE : land.owners[place];
            case 4:
                return land.marketOn(place);
            default:
                return refuse(OTHER);
        }
    }

    public int road(int a, int b, int kind) {
        int place = land.placeOf(a);
        int side = land.sideTowards(place, land.placeOf(b));
        if (side == NOWHERE) {
            return refuse(NOBODY);
        }
        if (kind < 0 || kind > RIVER) {
            return refuse(OTHER);
        }
        int was = land.roadAt(place, side);
        if (was == 0 && kind != 0 && land.roads >= MOST_ROADS) {
            return refuse(ROOM);
        }
        land.roads += (kind == 0 ? 0 : 1) - (was == 0 ? 0 : 1);
        land.layRoad(place, side, kind);
        offers.forgetWays();
        return was;
    }

    public int step(int kind, int v) {
        if (kind < 0 || kind > RIVER) {
            return refuse(OTHER);
        }
        int unfit = unfit(v, 1, 99);
        if (unfit != 0) {
            return refuse(unfit);
        }
        int was = land.steps[kind];
        land.steps[kind] = v;
        offers.forgetWays();
        return was;
    }

    public int toll(int xy, int v) {
        int place = land.placeOf(xy);
        if (place == NOWHERE) {
            return refuse(NOBODY);
        }
        int unfit = unfit(v, 0, 99);
        if (unfit != 0) {
            return refuse(unfit);
        }
        int was = land.tolls[place];
        land.tolls[place] = v;
        offers.forgetWays();
        return was;
    }

    public int way(int a, int b) {
        int from = land.placeOf(a);
        int to = land.placeOf(b);
        if (from == NOWHERE || to == NOWHERE) {
            return refuse(NOBODY);
        }
        offers.settle();
        return offers.ways.between(land, from, to);
    }

    public int market(int xy) {
        int place = land.placeOf(xy);
        if (place == NOWHERE) {
            return refuse(NOBODY);
        }
        if (land.marketOn(place) != NONE) {
            return refuse(STATE);
        }
        if (land.markets >= MOST_MARKETS) {
            return refuse(ROOM);
        }
        int market = land.markets;
        land.stalls[market] = place;
        land.markets = market + 1;
        offers.forgetWays();
        return market;
    }

    public int use(int kind, int base, int more, int cost, int fare) {
        if (kind < 0 || kind > WASTE) {
            return refuse(OTHER);
        }
        if (base < 0 || more < 0 || cost < 0 || fare < 0) {
            return refuse(BELOW);
        }
        if (base > 99 || more > 99 || cost > MOST_COST || fare > 99 || uses.number >= MOST_USES) {
            return refuse(ROOM);
        }
        int added = uses.append(kind, base, more, cost, fare);
        offers.forgetBids();
        return added;
    }

    public int year(int use, int v) {
        if (isNoUse(use)) {
            return refuse(NOBODY);
        }
        if (uses.kinds[use] != TURN) {
            return refuse(STATE);
        }
        if (v < -99) {
            return refuse(BELOW);
        }
        if (v > 99 || uses.years[use] >= MOST_YEARS) {
            return refuse(ROOM);
        }
        uses.years[use]++;
        uses.yearSums[use] += v;
        offers.forgetBids();
        return uses.years[use];
    }

    public int price(int use, int market, int v) {
        if (isNoUse(use) || isNoMarket(market)) {
            return refuse(NOBODY);
        }
        int unfit = unfit(v, 0, MOST_PRICE);
        if (unfit != 0) {
            return refuse(unfit);
        }
        int offer = offerOf(use, market);
        int was = uses.prices[offer];
        uses.prices[offer] = v;
        offers.forgetBids();
        return was;
    }

    public int tax(int use, int v) {
        if (use == -1) {
            return rentTax(v);
        }
        if (isNoUse(use)) {
            return refuse(NOBODY);
        }
        int unfit = unfit(v, 0, MOST_TAX);
        if (unfit != 0) {
            return refuse(unfit);
        }
        int was = uses.taxes[use];
        uses.taxes[use] = v;
        offers.forgetBids();
        return was;
    }

    private int rentTax(int v) {
        int unfit = unfit(v, 0, 100);
        if (unfit != 0) {
            return refuse(unfit);
        }
        int was = uses.rentTax;
        uses.rentTax = v;
        return was;
    }

    public long bid(int use, int xy, int market) {
        int place = land.placeOf(xy);
        if (isNoUse(use) || place == NOWHERE || isNoMarket(market)) {
            return refuseLong(NOBODY);
        }
        offers.settle();
        return offers.bids[offerOf(use, market) * PLACES + place];
    }

    public int goes(int xy, int what) {
        int place = land.placeOf(xy);
        if (place == NOWHERE) {
            return refuse(NOBODY);
        }
        if (what < 0 || what > 1) {
            return refuse(OTHER);
        }
        offers.settle();
        int taker = offers.takers[place];
        if (taker == NOWHERE) {
            return NONE;
        }
        return what == 0 ? taker / MOST_MARKETS : taker % MOST_MARKETS;
    }

    public long rent(int xy) {
        int place = land.placeOf(xy);
        if (xy != -1 && place == NOWHERE) {
            return refuseLong(NOBODY);
        }
        offers.settle();
        return xy == -1 ? offers.allRents() : offers.rentAt(place);
    }

    public int comes(int use, int market) {
        if (isNoUse(use) || isNoMarket(market)) {
            return refuse(NOBODY);
        }
        offers.settle();
        return offers.arriving(offerOf(use, market));
    }

    public int piece(int use, int market, int much, int price) {
        if (isNoUse(use) || isNoMarket(market)) {
            return refuse(NOBODY);
        }
        if (much < 0 || price < 0) {
            return refuse(BELOW);
        }
        int offer = offerOf(use, market);
        if (much > MOST_MUCH || price > MOST_PRICE || uses.pieces[offer] >= MOST_PIECES) {
            return refuse(ROOM);
        }
        uses.appendPiece(offer, much, price);
        return uses.pieces[offer];
    }

    public int bought(int use, int market, int price) {
        if (isNoUse(use) || isNoMarket(market)) {
            return refuse(NOBODY);
        }
        int unfit = unfit(price, 0, MOST_PRICE);
        if (unfit != 0) {
            return refuse(unfit);
        }
        return uses.boughtAt(offerOf(use, market), price);
    }

    public int clears(int use, int market) {
        if (isNoUse(use) || isNoMarket(market)) {
            return refuse(NOBODY);
        }
        offers.settle();
        return trade.clearingPrice(offers, offerOf(use, market));
    }

    public int rounds(int n) {
        int unfit = unfit(n, 1, MOST_ROUNDS);
        if (unfit != 0) {
            return refuse(unfit);
        }
        offers.settle();
        int gone = trade.runRounds(offers, n);
        offers.forgetBids();
        return gone;
    }

    public int ring(int soil, int i) {
        int unfit = unfitRing(soil, i);
        if (unfit != 0) {
            return refuse(unfit);
        }
        rings.reckon(uses, soil);
        return i < rings.number ? rings.takers[i] : NONE;
    }

    public long edge(int soil, int i, int part) {
        if (part < 0 || part > 1) {
            return refuseLong(OTHER);
        }
        int unfit = unfitRing(soil, i);
        if (unfit != 0) {
            return refuseLong(unfit);
        }
        rings.reckon(uses, soil);
        if (i >= rings.number) {
            return refuseLong(NOBODY);
        }
        return part == 0 ? rings.endsAbove[i] : rings.endsBelow[i];
    }

    private int unfitRing(int soil, int i) {
        if (soil < 0 || i < 0) {
            return BELOW;
        }
        if (soil > MOST_SOIL || i > MOST_RING) {
            return ROOM;
        }
        return land.markets == 0 ? STATE : 0;
    }

    public int out(int use) {
        if (isNoUse(use)) {
            return refuse(NOBODY);
        }
        offers.settle();
        return offers.farthest(use);
    }

    public int borders() {
        offers.settle();
        return offers.borderPairs();
    }

    public int plan(int a, int b, int kind, int cost) {
        int place = land.placeOf(a);
        int side = land.sideTowards(place, land.placeOf(b));
        if (side == NOWHERE) {
            return refuse(NOBODY);
        }
        if (kind < 1 || kind > RIVER) {
            return refuse(OTHER);
        }
        if (cost < 0) {
            return refuse(BELOW);
        }
        if (cost > MOST_PLAN_COST || plans.number >= MOST_PLANS) {
            return refuse(ROOM);
        }
        if (land.roadAt(place, side) != 0) {
            return refuse(STATE);
        }
        return plans.append(place, side, kind, cost);
    }

    public long gain(int plan) {
        int unfit = unfitPlan(plan);
        if (unfit != 0) {
            return refuseLong(unfit);
        }
        offers.settle();
        return works.gainOf(offers, plan);
    }

    public int best(int sum) {
        int unfit = unfit(sum, 0, MOST_PLAN_COST);
        if (unfit != 0) {
            return refuse(unfit);
        }
        if (works.isAnyBuilt(world)) {
            return refuse(STATE);
        }
        offers.settle();
        return works.bestSet(offers, sum);
    }

    public int losers(int plan) {
        int unfit = unfitPlan(plan);
        if (unfit != 0) {
            return refuse(unfit);
        }
        offers.settle();
        return works.losersBy(offers, plan);
    }

    private int unfitPlan(int plan) {
        if (plan < 0 || plan >= plans.number) {
            return NOBODY;
        }
        return works.isBuilt(world, plan) ? STATE : 0;
    }

    public int falls(int use, int v) {
        if (isNoUse(use)) {
            return refuse(NOBODY);
        }
        int unfit = unfit(v, 0, MOST_TAX);
        if (unfit != 0) {
            return refuse(unfit);
        }
        offers.settle();
        return offers.fallingWaste(use, v);
    }

    public int own(int xy, int owner) {
        int place = land.placeOf(xy);
        if (place == NOWHERE) {
            return refuse(NOBODY);
        }
        int unfit = unfit(owner, -1, MOST_OWNER);
        if (unfit != 0) {
            return refuse(unfit);
        }
        if (land.owners[place] == owner) {
            return 0;
        }
        land.owners[place] = owner;
        return 1;
    }

    public int held(int xy, boolean is) {
        int place = land.placeOf(xy);
        if (place == NOWHERE) {
            return refuse(NOBODY);
        }
        int told = is ? 1 : 0;
        if (land.idle[place] == told) {
            return 0;
        }
        land.idle[place] = told;
        offers.forgetBids();
        return 1;
    }

    public int hold(int owner) {
        int unfit = unfit(owner, 0, MOST_OWNER);
        if (unfit != 0) {
            return refuse(unfit);
        }
        offers.settle();
        return trade.bestToHold(offers, owner);
    }

    public int put(int v) {
        if (v < -1) {
            return refuse(BELOW);
        }
        if (v > 99 || row.length >= Row.MOST) {
            return refuse(ROOM);
        }
        row.append(v);
        return row.length;
    }

    public int judge() {
        offers.settle();
        int verdict = row.firstWrong(offers);
        row.length = 0;
        return verdict;
    }

    public int image() {
        kept.takeFrom(world);
        isKept = true;
        return land.acres;
    }

    public int on() {
        if (!isKept) {
            return refuse(STATE);
        }
        world.takeFrom(kept);
        offers.forgetWays();
        return land.acres;
    }

    public int count(int what) {
        switch (what) {
            case 0:
                return land.wide;
            case 1:
                return land.high;
            case 2:
                return land.markets;
            case 3:
                return uses.number;
            case 4:
                return land.roads;
            case 5:
                return plans.number;
            case 6:
                offers.settle();
                return offers.wasteAcres();
            case 7:
                return land.idleAcres();
            case 8:
                return tape.length;
            case 9:
                return row.length;
            default:
                return what >= 11 && what <= 16 ? refusals[what - 10] : NONE;
        }
    }

    private int refuse(int refusal) {
        if (refusal <= NOBODY && refusal >= ROOM) {
            refusals[-refusal]++;
        }
        return refusal;
    }

    private long refuseLong(int refusal) {
        return LONG_REFUSALS - refuse(refusal);
    }

    /** The refusal of a number outside its bounds, 0 if it is within. */
    private static int unfit(int v, int least, int greatest) {
        if (v < least) {
            return BELOW;
        }
        return v > greatest ? ROOM : 0;
    }

    private boolean isNoUse(int use) {
        return use < 0 || use >= uses.number;
    }

    private boolean isNoMarket(int market) {
        return market < 0 || market >= land.markets;
    }

    /** An offer is a use at a market; of even bids the offer with the least number is taken. */
    private static int offerOf(int use, int market) {
        return use * MOST_MARKETS + market;
    }

    /** The bytes that a land is read from. */
    private static final class Tape {
        static final int MOST = 60;
        final int[] bytes = new int[MOST];
        int length = 0;

        void append(int n, long lowestFirst) {
            long rest = lowestFirst;
            for (int i = 0; i < n && length < MOST; i++) {
                bytes[length] = (int) (rest & 255L);
                length++;
                rest >>>= 8;
            }
        }

        /** The place of the first byte that can not stand, NOWHERE if all can. */
        int firstFault() {
            int wide = MOST_WIDE;
            int line = 0;
            int column = 0;
            for (int i = 0; i < length; i++) {
                if (bytes[i] == '/') {
                    if (column == 0 || line > 0 && column < wide || line + 1 == MOST_HIGH) {
                        return i;
                    }
                    wide = column;
                    line++;
                    column = 0;
                } else if (!isDigit(bytes[i]) || column == wide) {
                    return i;
                } else {
                    column++;
                }
            }
            return column == 0 || line > 0 && column < wide ? length : NOWHERE;
        }

        private static boolean isDigit(int b) {
            return b >= '0' && b <= '9';
        }
    }

    /** The bytes of a giving that is to be judged. */
    private static final class Row {
        static final int MOST = 48;
        final int[] bytes = new int[MOST];
        int length = 0;

        void append(int v) {
            if (length < MOST) {
                bytes[length] = v;
                length++;
            }
        }

        /** The acre at which it is not as it goes, as told; a land's places go line by line, too. */
        int firstWrong(Offers offers) {
            Land land = offers.world.land;
            for (int place = 0; place < land.acres; place++) {
                int taker = offers.takers[place];
                int due = taker == NOWHERE ? -1 : taker / MOST_MARKETS;
                if (place >= length || bytes[place] != due) {
                    return land.told[place];
                }
            }
            return length > land.acres ? BEHIND_ALL : NONE;
        }
    }

    /** All that an image holds. */
    private static final class World {
        final Land land = new Land();
        final Uses uses = new Uses();
        final Plans plans = new Plans();

        void takeFrom(World other) {
            land.takeFrom(other.land);
            uses.takeFrom(other.uses);
            plans.takeFrom(other.plans);
        }
    }

    /** The acres, each at a place (line by line), what lies on them, the roads and the markets. */
    private static final class Land {
        int wide = 1;
        int high = 1;
        int acres = 1;
        int roads = 0;
        int markets = 0;
        final int[] told = new int[PLACES];
        final int[] soils = new int[PLACES];
        final int[] tolls = new int[PLACES];
        final int[] owners = new int[PLACES];
        final int[] idle = new int[PLACES];
        final int[] links = new int[PLACES * SIDES];
        final int[] stalls = new int[MOST_MARKETS];
        final int[] steps = {10, 6, 3, 2};

        Land() {
            for (int place = 0; place < PLACES; place++) {
                owners[place] = -1;
            }
        }

        /** Takes the soils of a text without a fault; of what was only the steps stay. */
        void layOut(Tape tape) {
            clearAway();
            int x = 0;
            int y = 0;
            for (int i = 0; i < tape.length; i++) {
                if (tape.bytes[i] == '/') {
                    x = 0;
                    y++;
                } else if (acres < PLACES) {
                    soils[acres] = tape.bytes[i] - '0';
                    told[acres] = 10 * x + y;
                    acres++;
                    x++;
                }
            }
            wide = x;
            high = y + 1;
        }

        private void clearAway() {
            acres = 0;
            roads = 0;
            markets = 0;
            for (int place = 0; place < PLACES; place++) {
                tolls[place] = 0;
                owners[place] = -1;
                idle[place] = 0;
            }
            for (int link = 0; link < PLACES * SIDES; link++) {
                links[link] = 0;
            }
        }

        void takeFrom(Land other) {
            wide = other.wide;
            high = other.high;
            acres = other.acres;
            roads = other.roads;
            markets = other.markets;
            System.arraycopy(other.told, 0, told, 0, PLACES);
            System.arraycopy(other.soils, 0, soils, 0, PLACES);
            System.arraycopy(other.tolls, 0, tolls, 0, PLACES);
            System.arraycopy(other.owners, 0, owners, 0, PLACES);
            System.arraycopy(other.idle, 0, idle, 0, PLACES);
            System.arraycopy(other.links, 0, links, 0, PLACES * SIDES);
            System.arraycopy(other.stalls, 0, stalls, 0, MOST_MARKETS);
            System.arraycopy(other.steps, 0, steps, 0, RIVER + 1);
        }

        int placeOf(int xy) {
            if (xy < 0 || xy / 10 >= wide || xy % 10 >= high) {
                return NOWHERE;
            }
            return xy % 10 * wide + xy / 10;
        }

        /** The place beside another one; sides that face each other differ in their lowest bit. */
        int beside(int place, int side) {
            int x = told[place] / 10;
            int y = told[place] % 10;
            switch (side) {
                case 0:
                    return x + 1 < wide ? place + 1 : NOWHERE;
                case 1:
                    return x > 0 ? place - 1 : NOWHERE;
                case 2:
                    return y + 1 < high ? place + wide : NOWHERE;
                default:
                    return y > 0 ? place - wide : NOWHERE;
            }
        }

        /** On which side of a place another one lies, NOWHERE if it is not beside it. */
        int sideTowards(int place, int other) {
            if (place == NOWHERE || other == NOWHERE) {
                return NOWHERE;
            }
            for (int side = 0; side < SIDES; side++) {
                if (beside(place, side) == other) {
                    return side;
                }
            }
            return NOWHERE;
        }

        int roadAt(int place, int side) {
            int link = links[place * SIDES + side];
            return link == UPSTREAM ? RIVER : link;
        }

        /** Lays a road or takes it away, without counting it. */
        void layRoad(int place, int side, int kind) {
            int other = beside(place, side);
            if (other != NOWHERE) {
                links[place * SIDES + side] = kind;
                links[other * SIDES + (side ^ 1)] = kind == RIVER ? UPSTREAM : kind;
            }
        }

        int marketOn(int place) {
            for (int market = 0; market < markets; market++) {
                if (stalls[market] == place) {
                    return market;
                }
            }
            return NONE;
        }

        int idleAcres() {
            int sum = 0;
            for (int place = 0; place < acres; place++) {
                sum += idle[place];
            }
            return sum;
        }
    }

    /** The uses with their years and taxes, and for each offer its price and pieces. */
    private static final class Uses {
        int number = 0;
        int rentTax = 0;
        final int[] kinds = new int[MOST_USES];
        final int[] bases = new int[MOST_USES];
        final int[] mores = new int[MOST_USES];
        final int[] costs = new int[MOST_USES];
        final int[] fares = new int[MOST_USES];
        final int[] taxes = new int[MOST_USES];
        final int[] years = new int[MOST_USES];
        final int[] yearSums = new int[MOST_USES];
        final int[] prices = new int[OFFERS];
        final int[] pieces = new int[OFFERS];
        final int[] pieceMuch = new int[OFFERS * MOST_PIECES];
        final int[] piecePrices = new int[OFFERS * MOST_PIECES];

        int append(int kind, int base, int more, int cost, int fare) {
            int use = number;
            if (use >= MOST_USES) {
                return NONE;
            }
            kinds[use] = kind;
            bases[use] = base;
            mores[use] = more;
            costs[use] = cost;
            fares[use] = fare;
            number = use + 1;
            return use;
        }

        void appendPiece(int offer, int much, int price) {
            int many = pieces[offer];
            if (many < MOST_PIECES) {
                pieceMuch[offer * MOST_PIECES + many] = much;
                piecePrices[offer * MOST_PIECES + many] = price;
                pieces[offer] = many + 1;
            }
        }

        void takeFrom(Uses other) {
            number = other.number;
            rentTax = other.rentTax;
            System.arraycopy(other.kinds, 0, kinds, 0, MOST_USES);
            System.arraycopy(other.bases, 0, bases, 0, MOST_USES);
            System.arraycopy(other.mores, 0, mores, 0, MOST_USES);
            System.arraycopy(other.costs, 0, costs, 0, MOST_USES);
            System.arraycopy(other.fares, 0, fares, 0, MOST_USES);
            System.arraycopy(other.taxes, 0, taxes, 0, MOST_USES);
            System.arraycopy(other.years, 0, years, 0, MOST_USES);
            System.arraycopy(other.yearSums, 0, yearSums, 0, MOST_USES);
            System.arraycopy(other.prices, 0, prices, 0, OFFERS);
            System.arraycopy(other.pieces, 0, pieces, 0, OFFERS);
            System.arraycopy(other.pieceMuch, 0, pieceMuch, 0, OFFERS * MOST_PIECES);
            System.arraycopy(other.piecePrices, 0, piecePrices, 0, OFFERS * MOST_PIECES);
        }

        int yieldOn(int use, int soil) {
            return kinds[use] == HOUSE ? bases[use] : bases[use] + mores[use] * soil;
        }

        /** The price that is reckoned with: that of now and the mean of the years. */
        int reckonedPrice(int offer) {
            int use = offer / MOST_MARKETS;
            int many = years[use];
            return many == 0 ? prices[offer] : prices[offer] + yearSums[use] / many;
        }

        /** What an acre brings before anything is carried, in hundredths. */
        long payAtHome(int offer, int soil) {
            int use = offer / MOST_MARKETS;
            long earned = (long) yieldOn(use, soil) * reckonedPrice(offer);
            return 100L * (earned - costs[use] - taxes[use]);
        }

        /** What carrying the yield of an acre costs for each unit of way, in hundredths. */
        long carriage(int use, int soil) {
            int fare = kinds[use] == WALKING ? fares[use] / 2 : fares[use];
            return (long) fare * yieldOn(use, soil);
        }

        /** Whether a use can go a way at all. */
        boolean canGo(int use, int way) {
            if (kinds[use] == WASTE) {
                return false;
            }
            return kinds[use] != FRESH || way <= FRESH_WAY;
        }

        int boughtAt(int offer, int price) {
            int sum = 0;
            for (int i = offer * MOST_PIECES; i < offer * MOST_PIECES + pieces[offer]; i++) {
                if (piecePrices[i] >= price) {
                    sum += pieceMuch[i];
                }
            }
            return sum;
        }
    }

    /** Roads that are thought of. */
    private static final class Plans {
        int number = 0;
        final int[] places = new int[MOST_PLANS];
        final int[] sides = new int[MOST_PLANS];
        final int[] kinds = new int[MOST_PLANS];
        final int[] costs = new int[MOST_PLANS];

        int append(int place, int side, int kind, int cost) {
            int plan = number;
            if (plan >= MOST_PLANS) {
                return NONE;
            }
            places[plan] = place;
            sides[plan] = side;
            kinds[plan] = kind;
            costs[plan] = cost;
            number = plan + 1;
            return plan;
        }

        void takeFrom(Plans other) {
            number = other.number;
            System.arraycopy(other.places, 0, places, 0, MOST_PLANS);
            System.arraycopy(other.sides, 0, sides, 0, MOST_PLANS);
            System.arraycopy(other.kinds, 0, kinds, 0, MOST_PLANS);
            System.arraycopy(other.costs, 0, costs, 0, MOST_PLANS);
        }
    }

    /** How far every place is from every market, by roads and on foot. */
    private static final class Ways {
        private static final int UNREACHED = 1 << 28;
        final int[] byRoad = new int[MOST_MARKETS * PLACES];
        final int[] onFoot = new int[MOST_MARKETS * PLACES];
        private final int[] asked = new int[PLACES];
        private final int[] next = new int[PLACES * SIDES];
        private final int[] roadFees = new int[PLACES * SIDES];
        private final int[] footFees = new int[PLACES * SIDES];

        void reckonFoot(Land land) {
            for (int place = 0; place < land.acres; place++) {
                for (int side = 0; side < SIDES; side++) {
                    int other = land.beside(place, side);
                    next[place * SIDES + side] = other;
                    footFees[place * SIDES + side] = other == NOWHERE ? 0 : FOOT_STEP + land.tolls[other];
                }
            }
            for (int market = 0; market < land.markets; market++) {
                search(land.acres, land.stalls[market], footFees, onFoot, market * PLACES);
            }
        }

        /** Goes behind reckonFoot, which tells what lies beside what. */
        void reckonRoads(Land land) {
            for (int link = 0; link < land.acres * SIDES; link++) {
                int other = next[link];
                int kind = land.links[link] == UPSTREAM ? 0 : land.links[link];
                roadFees[link] = other == NOWHERE ? 0 : land.steps[kind] + land.tolls[other];
            }
            for (int market = 0; market < land.markets; market++) {
                search(land.acres, land.stalls[market], roadFees, byRoad, market * PLACES);
            }
        }

        int between(Land land, int from, int to) {
            search(land.acres, to, roadFees, asked, 0);
            return asked[from];
        }

        /** Ways to a goal from all places; the sweeps turn round, as ways run in all directions. */
        private void search(int acres, int goal, int[] fees, int[] far, int first) {
            for (int place = 0; place < acres; place++) {
                far[first + place] = UNREACHED;
            }
            far[first + goal] = 0;
            boolean changed = true;
            for (int sweep = 0; sweep < PLACES && changed; sweep++) {
                changed = false;
                for (int i = 0; i < acres; i++) {
                    int place = (sweep & 1) == 0 ? i : acres - 1 - i;
                    int least = leastFrom(place, fees, far, first);
                    if (least < far[first + place]) {
                        far[first + place] = least;
                        changed = true;
                    }
                }
            }
        }

        private int leastFrom(int place, int[] fees, int[] far, int first) {
            int least = UNREACHED;
            for (int link = place * SIDES; link < place * SIDES + SIDES; link++) {
                int other = next[link];
                if (other != NOWHERE && fees[link] + far[first + other] < least) {
                    least = fees[link] + far[first + other];
                }
            }
            return least;
        }
    }

    /** What every offer bids for every place, and which offer takes it. */
    private static final class Offers {
        final World world = new World();
        final Ways ways = new Ways();
        final long[] bids = new long[OFFERS * PLACES];
        final int[] takers = new int[PLACES];
        private final Land land = world.land;
        private final Uses uses = world.uses;
        private boolean waysKnown = false;
        private boolean bidsKnown = false;

        void forgetWays() {
            waysKnown = false;
            bidsKnown = false;
        }

        void forgetBids() {
            bidsKnown = false;
        }

        void settle() {
            if (!waysKnown) {
                ways.reckonFoot(land);
                ways.reckonRoads(land);
                waysKnown = true;
            }
            if (!bidsKnown) {
                reckonBids();
                bidsKnown = true;
            }
        }

        void reckonBids() {
            for (int offer = 0; offer < uses.number * MOST_MARKETS; offer++) {
                if (offer % MOST_MARKETS < land.markets) {
                    reckonOffer(offer);
                }
            }
            for (int place = 0; place < land.acres; place++) {
                takers[place] = takerOf(place);
            }
        }

        void reckonOffer(int offer) {
            int use = offer / MOST_MARKETS;
            for (int place = 0; place < land.acres; place++) {
                int way = wayOf(offer, place);
                long bid = 0;
                if (uses.canGo(use, way)) {
                    int soil = land.soils[place];
                    bid = uses.payAtHome(offer, soil) - uses.carriage(use, soil) * way;
                }
                bids[offer * PLACES + place] = bid;
            }
        }

        int wayOf(int offer, int place) {
            int at = offer % MOST_MARKETS * PLACES + place;
            return uses.kinds[offer / MOST_MARKETS] == WALKING ? ways.onFoot[at] : ways.byRoad[at];
        }

        int takerOf(int place) {
            return land.idle[place] == 0 ? greatest(place, NOWHERE) : NOWHERE;
        }

        /** The offer with the greatest bid above 0 for a place, one left out; NOWHERE if none. */
        int greatest(int place, int without) {
            int taker = NOWHERE;
            long most = 0;
            for (int offer = 0; offer < uses.number * MOST_MARKETS; offer++) {
                long bid = bids[offer * PLACES + place];
                if (bid > most && offer != without && offer % MOST_MARKETS < land.markets) {
                    most = bid;
                    taker = offer;
                }
            }
            return taker;
        }

        long rentAt(int place) {
            return rentBy(takers[place], place);
        }

        private long rentBy(int taker, int place) {
            if (taker == NOWHERE) {
                return 0;
            }
            long bid = bids[taker * PLACES + place];
            return bid - bid * uses.rentTax / 100;
        }

        long allRents() {
            long sum = 0;
            for (int place = 0; place < land.acres; place++) {
                sum += rentAt(place);
            }
            return sum;
        }

        /** The rents of an owner by the bids as they stand, whoever took the acres before. */
        long rentsOf(int owner) {
            long sum = 0;
            for (int place = 0; place < land.acres; place++) {
                if (land.owners[place] == owner) {
                    sum += rentBy(takerOf(place), place);
                }
            }
            return sum;
        }

        int arriving(int offer) {
            int sum = 0;
            for (int place = 0; place < land.acres; place++) {
                if (takers[place] == offer) {
                    sum += uses.yieldOn(offer / MOST_MARKETS, land.soils[place]);
                }
            }
            return sum;
        }

        private boolean isTakenBy(int use, int place) {
            return takers[place] != NOWHERE && takers[place] / MOST_MARKETS == use;
        }

        int farthest(int use) {
            int most = NONE;
            for (int place = 0; place < land.acres; place++) {
                if (isTakenBy(use, place)) {
                    most = Math.max(most, wayOf(takers[place], place));
                }
            }
            return most;
        }

        int borderPairs() {
            int pairs = 0;
            for (int place = 0; place < land.acres; place++) {
                // Only two of the four sides, so that no pair is counted twice.
                pairs += isBorder(place, land.beside(place, 0)) ? 1 : 0;
                pairs += isBorder(place, land.beside(place, 2)) ? 1 : 0;
            }
            return pairs;
        }

        private boolean isBorder(int place, int other) {
            if (other == NOWHERE || takers[place] == NOWHERE || takers[other] == NOWHERE) {
                return false;
            }
            return takers[place] % MOST_MARKETS != takers[other] % MOST_MARKETS;
        }

        int wasteAcres() {
            int waste = 0;
            for (int place = 0; place < land.acres; place++) {
                waste += takers[place] == NOWHERE ? 1 : 0;
            }
            return waste;
        }

        /** How many acres of a use none would take if its tax were another one. */
        int fallingWaste(int use, int tax) {
            int was = uses.taxes[use];
            uses.taxes[use] = tax;
            for (int market = 0; market < land.markets; market++) {
                reckonOffer(offerOf(use, market));
            }
            int fallen = 0;
            for (int place = 0; place < land.acres; place++) {
                if (isTakenBy(use, place) && takerOf(place) == NOWHERE) {
                    fallen++;
                }
            }
            uses.taxes[use] = was;
            bidsKnown = false;
            return fallen;
        }
    }

    /** Prices at which what comes is bought, and who gains by holding an acre back. */
    private static final class Trade {
        private static final int NEVER = MOST_PRICE + 1;
        private final int[] leastPrices = new int[PLACES];
        private final int[] yields = new int[PLACES];
        private final int[] savedPrices = new int[OFFERS];
        private final long[] savedBids = new long[OFFERS * PLACES];

        /** Found by halving: at a higher price no less comes and no more is bought. */
        int clearingPrice(Offers offers, int offer) {
            Land land = offers.world.land;
            Uses uses = offers.world.uses;
            for (int place = 0; place < land.acres; place++) {
                yields[place] = uses.yieldOn(offer / MOST_MARKETS, land.soils[place]);
                leastPrices[place] = leastPriceFor(offers, offer, place);
            }
            int tooLow = -1;
            for (int span = 512; span > 0; span /= 2) {
                int price = tooLow + span;
                if (price <= MOST_PRICE && comingAt(price, land.acres) < uses.boughtAt(offer, price)) {
                    tooLow = price;
                }
            }
            return tooLow == MOST_PRICE ? NONE : tooLow + 1;
        }

        private int comingAt(int price, int acres) {
            int sum = 0;
            for (int place = 0; place < acres; place++) {
                if (leastPrices[place] <= price) {
                    sum += yields[place];
                }
            }
            return sum;
        }

        /** The least price at which a place goes to an offer, others as they are. */
        private int leastPriceFor(Offers offers, int offer, int place) {
            Uses uses = offers.world.uses;
            int way = offers.wayOf(offer, place);
            if (offers.world.land.idle[place] != 0 || yields[place] <= 0
                    || !uses.canGo(offer / MOST_MARKETS, way)) {
                return NEVER;
            }
            int rival = offers.greatest(place, offer);
            long needed = 1;
            if (rival != NOWHERE) {
                needed = offers.bids[rival * PLACES + place] + (rival < offer ? 1 : 0);
            }
            long missing = needed - offers.bids[offer * PLACES + place];
            long price = uses.prices[offer] - Math.floorDiv(-missing, 100L * yields[place]);
            return (int) Math.max(0L, Math.min((long) NEVER, price));
        }

        int runRounds(Offers offers, int n) {
            for (int gone = 1; gone <= n; gone++) {
                if (!runRound(offers)) {
                    return gone;
                }
            }
            return n;
        }

        /** Whether the round changed a price. */
        private boolean runRound(Offers offers) {
            Uses uses = offers.world.uses;
            boolean changed = false;
            for (int offer = 0; offer < uses.number * MOST_MARKETS; offer++) {
                // Pieces outlast their market when a land is read.
                if (uses.pieces[offer] > 0 && offer % MOST_MARKETS < offers.world.land.markets) {
                    int price = clearingPrice(offers, offer);
                    if (price != NONE && price != uses.prices[offer]) {
                        uses.prices[offer] = price;
                        offers.reckonOffer(offer);
                        changed = true;
                    }
                }
            }
            return changed;
        }

        int bestToHold(Offers offers, int owner) {
            Land land = offers.world.land;
            System.arraycopy(offers.world.uses.prices, 0, savedPrices, 0, OFFERS);
            System.arraycopy(offers.bids, 0, savedBids, 0, OFFERS * PLACES);
            long most = rentsAfterRound(offers, owner);
            int found = NONE;
            for (int xy = 0; xy < 10 * land.wide; xy++) {
                int place = land.placeOf(xy);
                if (place != NOWHERE && land.owners[place] == owner && offers.takers[place] != NOWHERE) {
                    land.idle[place] = 1;
                    long rents = rentsAfterRound(offers, owner);
                    land.idle[place] = 0;
                    if (rents > most) {
                        most = rents;
                        found = xy;
                    }
                }
            }
            return found;
        }

        /** What an owner has after one round; prices and bids are as before it then. */
        private long rentsAfterRound(Offers offers, int owner) {
            runRound(offers);
            long rents = offers.rentsOf(owner);
            System.arraycopy(savedPrices, 0, offers.world.uses.prices, 0, OFFERS);
            System.arraycopy(savedBids, 0, offers.bids, 0, OFFERS * PLACES);
            return rents;
        }
    }

    /** What plans would bring if they were built. */
    private static final class Works {
        private final long[] rentsBefore = new long[PLACES];

        boolean isBuilt(World world, int plan) {
            return world.land.roadAt(world.plans.places[plan], world.plans.sides[plan]) != 0;
        }

        boolean isAnyBuilt(World world) {
            for (int plan = 0; plan < world.plans.number; plan++) {
                if (isBuilt(world, plan)) {
                    return true;
                }
            }
            return false;
        }

        long gainOf(Offers offers, int plan) {
            long without = offers.allRents();
            build(offers, 1 << plan);
            long with = offers.allRents();
            tearDown(offers, 1 << plan);
            return with - without - 100L * offers.world.plans.costs[plan];
        }

        int losersBy(Offers offers, int plan) {
            int acres = offers.world.land.acres;
            for (int place = 0; place < acres; place++) {
                rentsBefore[place] = offers.rentAt(place);
            }
            build(offers, 1 << plan);
            int losing = 0;
            for (int place = 0; place < acres; place++) {
                if (offers.rentAt(place) < rentsBefore[place]) {
                    losing++;
                }
            }
            tearDown(offers, 1 << plan);
            return losing;
        }

        /** The sets come by their numbers, so of quite even ones the least is found first. */
        int bestSet(Offers offers, int sum) {
            int found = 0;
            long most = offers.allRents();
            int leastCost = 0;
            for (int set = 1; set < 1 << offers.world.plans.number; set++) {
                int cost = costOf(offers.world.plans, set);
                if (cost <= sum) {
                    build(offers, set);
                    long rents = offers.allRents();
                    tearDown(offers, set);
                    if (rents > most || rents == most && cost < leastCost) {
                        found = set;
                        most = rents;
                        leastCost = cost;
                    }
                }
            }
            return found;
        }

        private int costOf(Plans plans, int set) {
            int cost = 0;
            for (int plan = 0; plan < plans.number; plan++) {
                if ((set >> plan & 1) != 0) {
                    cost += plans.costs[plan];
                }
            }
            return cost;
        }

        private void build(Offers offers, int set) {
            layRoads(offers.world, set, true);
            offers.ways.reckonRoads(offers.world.land);
            offers.reckonBids();
        }

        private void tearDown(Offers offers, int set) {
            layRoads(offers.world, set, false);
            offers.forgetWays();
        }

        private void layRoads(World world, int set, boolean is) {
            Plans plans = world.plans;
            for (int plan = 0; plan < plans.number; plan++) {
                if ((set >> plan & 1) != 0) {
                    world.land.layRoad(plans.places[plan], plans.sides[plan], is ? plans.kinds[plan] : 0);
                }
            }
        }
    }

    /** Rings of uses around market 0 on an even plain, by exact fractions. */
    private static final class Rings {
        private static final int MOST_CUTS = 2 + MOST_USES + MOST_USES * (MOST_USES - 1) / 2;
        private final long[] homes = new long[MOST_USES];
        private final long[] slopes = new long[MOST_USES];
        private final long[] cutsAbove = new long[MOST_CUTS];
        private final long[] cutsBelow = new long[MOST_CUTS];
        private int cuts = 0;
        int number = 0;
        final int[] takers = new int[MOST_CUTS];
        final long[] endsAbove = new long[MOST_CUTS];
        final long[] endsBelow = new long[MOST_CUTS];

        void reckon(Uses uses, int soil) {
            findCuts(uses, soil);
            number = 0;
            int before = NOWHERE;
            for (int cut = 0; cut < cuts; cut++) {
                // Between two fractions lies the one of their sums; behind the last one it and 1.
                boolean isLast = cut + 1 >= cuts;
                long above = cutsAbove[cut] + (isLast ? cutsBelow[cut] : cutsAbove[cut + 1]);
                long below = cutsBelow[cut] + (isLast ? 0 : cutsBelow[cut + 1]);
                int taker = takerAt(uses, above, below);
                if (taker != NOWHERE) {
                    extend(taker, taker == before, cut + 1);
                }
                before = taker;
            }
        }

        /** All d from 0 on at which parts may meet, in their order; more than those do no harm. */
        private void findCuts(Uses uses, int soil) {
            cuts = 0;
            addCut(0, 1);
            addCut(FRESH_WAY, 1);
            for (int use = 0; use < uses.number; use++) {
                homes[use] = uses.payAtHome(offerOf(use, 0), soil);
                slopes[use] = uses.carriage(use, soil);
                addCut(homes[use], slopes[use]);
                for (int other = 0; other < use; other++) {
                    addCut(homes[use] - homes[other], slopes[use] - slopes[other]);
                }
            }
        }

        /** Puts a fraction into its place, unless it is none, below 0 or there already. */
        private void addCut(long above, long below) {
            long n = below < 0 ? -above : above;
            long d = below < 0 ? -below : below;
            if (d == 0 || n < 0 || cuts >= MOST_CUTS) {
                return;
            }
            int at = cuts;
            while (at > 0 && cutsAbove[at - 1] * d > n * cutsBelow[at - 1]) {
                at--;
            }
            if (at > 0 && cutsAbove[at - 1] * d == n * cutsBelow[at - 1]) {
                return;
            }
            for (int i = cuts; i > at; i--) {
                cutsAbove[i] = cutsAbove[i - 1];
                cutsBelow[i] = cutsBelow[i - 1];
            }
            cutsAbove[at] = n;
            cutsBelow[at] = d;
            cuts++;
        }

        /** The use with the greatest bid above 0 at a fraction, NOWHERE if none. */
        private int takerAt(Uses uses, long above, long below) {
            int taker = NOWHERE;
            long most = 0;
            for (int use = 0; use < uses.number; use++) {
                long bid = homes[use] * below - slopes[use] * above;
                if (bid > most && isThere(uses.kinds[use], above, below)) {
                    most = bid;
                    taker = use;
                }
            }
            return taker;
        }

        private boolean isThere(int kind, long above, long below) {
            if (kind == WASTE || kind == HOUSE) {
                return false;
            }
            return kind != FRESH || above <= FRESH_WAY * below;
        }

        /** Lets the last ring, or else a new one, reach to a cut, or on and on behind the last cut. */
        private void extend(int taker, boolean same, int cut) {
            int at = same && number > 0 ? number - 1 : number;
            if (at >= MOST_CUTS) {
                return;
            }
            takers[at] = taker;
            number = at + 1;
            if (cut >= cuts) {
                endsAbove[at] = NONE;
                endsBelow[at] = 1;
            } else {
                long common = commonDivisor(cutsAbove[cut], cutsBelow[cut]);
                endsAbove[at] = cutsAbove[cut] / common;
                endsBelow[at] = cutsBelow[cut] / common;
            }
        }

        /** The greatest common divisor of a number from 0 on and one above 0. */
        private static long commonDivisor(long a, long b) {
            long greater = b;
            long rest = a;
            // Two turns halve the numbers at least, so longs need less than 200.
            for (int turn = 0; turn < 200 && rest != 0; turn++) {
                long next = greater % rest;
                greater = rest;
                rest = next;
            }
            return greater == 0 ? 1 : greater;
        }
    }
}
