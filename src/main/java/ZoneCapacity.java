import java.util.NoSuchElementException;

/**
 * An auction for capacity by zones, as ../shared/DOC.md promises it.
 *
 * <p>All rows are made once, with the object: but for an exception that the document names, no call
 * makes an object. Every row is read by at() and written by put(), which look at the index first.
 */
public final class ZoneCapacity {
    public static final int NONE = -1;
    public static final long NO_NUMBER = -1000000000000000L;

    private static final int NO_UNITS = -1000000;
    private static final int MOST = 9999;
    private static final int MOST_ZONES = 6;
    private static final int MOST_POINTS = 4;
    private static final int MOST_WANTED = 2000;
    private static final int KINDS = 4;
    private static final int OWNERS = 6;
    private static final int OWNERS_FROM = 100;
    private static final int FLOORS_FROM = 10;
    private static final int MOST_RESOURCES = 12;
    private static final int MOST_SIZE = 500;
    private static final int MOST_STEPS = 3;
    private static final int LINES = 4;
    private static final int REST_LINE = 3;
    private static final int MOST_BYTES = 500;
    private static final int FED_BYTES = 20;
    private static final int BEST_STEP = 25;
    private static final int BEST_LAST = 2500;
    /** The highest power of two up to the 10000 numbers that a search goes through. */
    private static final int HIGHEST_BIT = 8192;

    private final Auction now = new Auction();
    private final Auction trial = new Auction();
    private final Teller teller = new Teller();
    private final Market firstKept = new Market();
    private final Market secondKept = new Market();
    private boolean firstIsKept;
    private boolean secondIsKept;

    public ZoneCapacity() {
    }

    // ---- what is told

    public int feed(int a, int b, int c, int d, int e) {
        Tape tape = teller.tape;
        if (tape.length + FED_BYTES > MOST_BYTES) {
            return NONE;
        }
        tape.append(a);
        tape.append(b);
        tape.append(c);
        tape.append(d);
        tape.append(e);
        return tape.length;
    }

    public boolean end(int n) {
        if (!within(n, 0, teller.tape.length)) {
            return false;
        }
        teller.tape.length = n;
        return true;
    }

    public int tell() {
        teller.draft.copyFrom(now.market);
        int statements = teller.tellAll();
        if (statements != NONE) {
            now.market.copyFrom(teller.draft);
        }
        teller.tape.length = 0;
        return statements;
    }

    public int fault() {
        return teller.fault;
    }

    public int zone(int outer, int in, int out) {
        Zones zones = now.market.zones;
        if (zones.many >= MOST_ZONES || !zones.has(outer)) {
            return NONE;
        }
        if (!within(in, 0, MOST) || !within(out, 0, MOST)) {
            return NONE;
        }
        return zones.add(outer, in, out);
    }

    public int point(int zone, int units, int price) {
        Zones zones = now.market.zones;
        if (!zones.has(zone) || at(zones.points, zone) >= MOST_POINTS) {
            return NONE;
        }
        if (!within(units, zones.wanted(zone) + 1, MOST_WANTED)
                || !within(price, 0, zones.lastPrice(zone))) {
            return NONE;
        }
        return zones.addPoint(zone, units, price);
    }

    public int resource(int zone, int size, int kind, int owner, boolean must) {
        Offers offers = now.market.offers;
        if (offers.many >= MOST_RESOURCES || !now.market.zones.has(zone)) {
            return NONE;
        }
        if (!within(size, 1, MOST_SIZE) || !within(kind, 0, KINDS - 1)
                || !within(owner, 0, OWNERS - 1)) {
            return NONE;
        }
        return offers.add(zone, size, kind, owner, must, false);
    }

    public int step(int resource, int units, int price) {
        Offers offers = now.market.offers;
        if (!offers.has(resource) || at(offers.steps, resource) >= MOST_STEPS) {
            return NONE;
        }
        if (!within(units, 1, offers.rest(resource))
                || !within(price, offers.lastPrice(resource), MOST)) {
            return NONE;
        }
        return offers.addStep(resource, units, price);
    }

    public int drop(int which, boolean steps) {
        Market market = now.market;
        if (steps ? !market.offers.has(which) : !market.zones.has(which)) {
            return NONE;
        }
        return steps ? market.offers.dropSteps(which) : market.zones.dropPoints(which);
    }

    public boolean set(int what, int k, int v) {
        Zones zones = now.market.zones;
        Offers offers = now.market.offers;
        if (!within(v, 0, MOST)) {
            return false;
        }
        switch (what) {
            case 0:
                return within(k, 0, KINDS - 1) && change(offers.floors, k, v);
            case 1:
                return offers.changeCeiling(v);
            case 2:
                return zones.hasInner(k) && change(zones.in, k, v);
            case 3:
                return zones.hasInner(k) && change(zones.out, k, v);
            case 4:
                return v <= 1 && offers.has(k) && change(offers.free, k, v);
            default:
                return false;
        }
    }

    public boolean keep(int slot) {
        if (slot == 0) {
            firstKept.copyFrom(now.market);
            firstIsKept = true;
        } else if (slot == 1) {
            secondKept.copyFrom(now.market);
            secondIsKept = true;
        }
        return slot == 0 || slot == 1;
    }

    public boolean back(int slot) {
        if (slot == 0 && firstIsKept) {
            now.market.copyFrom(firstKept);
            return true;
        }
        if (slot == 1 && secondIsKept) {
            now.market.copyFrom(secondKept);
            return true;
        }
        return false;
    }

    public int count(int what) {
        switch (what) {
            case 0:
                return now.market.zones.many;
            case 1:
                return now.market.offers.many;
            case 2:
                return now.market.offers.ceiling;
            case 3:
                return teller.tape.length;
            default:
                return within(what, FLOORS_FROM, FLOORS_FROM + KINDS - 1)
                        ? at(now.market.offers.floors, what - FLOORS_FROM) : NONE;
        }
    }

    public int zoneOf(int zone, int what) throws NoSuchElementException {
        Zones zones = now.market.zones;
        if (!zones.has(zone)) {
            throw new NoSuchElementException();
        }
        switch (what) {
            case 0:
                return zone == 0 ? NONE : at(zones.outer, zone);
            case 1:
                return at(zones.in, zone);
            case 2:
                return at(zones.out, zone);
            case 3:
                return at(zones.points, zone);
            case 4:
                return zones.wanted(zone);
            case 5:
                return now.market.offers.bitsIn(zone);
            default:
                throw new NoSuchElementException();
        }
    }

    public int resourceOf(int resource, int what) throws NoSuchElementException {
        Offers offers = now.market.offers;
        if (!offers.has(resource)) {
            throw new NoSuchElementException();
        }
        switch (what) {
            case 0:
                return at(offers.zones, resource);
            case 1:
                return at(offers.sizes, resource);
            case 2:
                return at(offers.kinds, resource);
            case 3:
                return at(offers.owners, resource);
            case 4:
                return at(offers.must, resource);
            case 5:
                return at(offers.free, resource);
            case 6:
                return at(offers.steps, resource);
            default:
                throw new NoSuchElementException();
        }
    }

    public int line(int resource, int line, boolean its) {
        Offers offers = now.market.offers;
        if (!offers.hasLine(resource, line)) {
            return NONE;
        }
        return its ? offers.itsOf(resource, line) : offers.unitsOf(resource, line);
    }

    public int worth(int zone, int u) {
        Zones zones = now.market.zones;
        return zones.has(zone) ? zones.worthOf(zone, u) : NONE;
    }

    public int wants(int zone, int price) {
        Zones zones = now.market.zones;
        if (!zones.has(zone) || !within(price, 0, MOST)) {
            return NONE;
        }
        return zones.wantedFrom(zone, price);
    }

    public int level(int zone, int price, boolean high) {
        if (!now.market.zones.has(zone) || !within(price, 0, MOST)) {
            return NO_UNITS;
        }
        return now.levelOf(zone, high ? price + 1 : price);
    }

    // ---- as it is CLEARED now

    public int price(int zone) {
        if (!now.market.zones.has(zone)) {
            return NONE;
        }
        now.clear();
        return at(now.prices, zone);
    }

    public int net(int zone) {
        if (!now.market.zones.has(zone)) {
            return NO_UNITS;
        }
        now.clear();
        return at(now.nets, zone);
    }

    public int served(int zone) {
        if (!now.market.zones.has(zone)) {
            return NONE;
        }
        now.clear();
        return at(now.servedUnits, zone);
    }

    public int taken(int resource, int line) {
        Offers offers = now.market.offers;
        if (!offers.has(resource)) {
            return NONE;
        }
        if (line == NONE) {
            now.clear();
            return now.takenOf(resource);
        }
        if (!offers.hasLine(resource, line)) {
            return NONE;
        }
        now.clear();
        return at(now.takenUnits, resource * LINES + line);
    }

    public int binds(int zone) {
        if (!now.market.zones.has(zone)) {
            return NONE;
        }
        if (zone == 0) {
            return 0;
        }
        now.clear();
        return now.boundOf(zone);
    }

    public long surplus() {
        now.clear();
        return now.surplusOfAll();
    }

    public long rent(int zone) {
        if (!now.market.zones.has(zone)) {
            return NO_NUMBER;
        }
        if (zone == 0) {
            return 0;
        }
        now.clear();
        return now.rentOf(zone);
    }

    public long paid(int k) {
        if (now.market.offers.has(k)) {
            now.clear();
            return now.paidTo(k);
        }
        if (within(k, OWNERS_FROM, OWNERS_FROM + OWNERS - 1)) {
            now.clear();
            return now.paidToOwner(k - OWNERS_FROM);
        }
        return NO_NUMBER;
    }

    public long charged(int zone) {
        if (!now.market.zones.has(zone)) {
            return NO_NUMBER;
        }
        now.clear();
        return (long) at(now.prices, zone) * at(now.servedUnits, zone);
    }

    // ---- what would be

    public int without(int resource, int zone) {
        Market market = now.market;
        if (!market.offers.has(resource) || !market.zones.has(zone)) {
            return NONE;
        }
        trial.market.copyFrom(market);
        trial.market.offers.silence(resource);
        trial.clear();
        return at(trial.prices, zone);
    }

    public int pivotal(int owner, int zone) {
        Market market = now.market;
        if (!within(owner, 0, OWNERS - 1) || !market.zones.has(zone)) {
            return NONE;
        }
        now.clear();
        trial.market.copyFrom(market);
        trial.market.offers.silenceOwner(owner);
        trial.clear();
        int ceiling = market.offers.ceiling;
        return at(now.prices, zone) <= ceiling && at(trial.prices, zone) > ceiling ? 1 : 0;
    }

    public long wider(int zone, int n, boolean out) {
        Market market = now.market;
        if (!market.zones.hasInner(zone) || !within(n, 1, MOST)) {
            return NO_NUMBER;
        }
        now.clear();
        trial.market.copyFrom(market);
        int[] limits = out ? trial.market.zones.out : trial.market.zones.in;
        put(limits, zone, Math.min(MOST, at(limits, zone) + n));
        trial.clear();
        return trial.surplusOfAll() - now.surplusOfAll();
    }

    public int needs(int zone) {
        if (!now.market.zones.hasInner(zone)) {
            return NONE;
        }
        trial.market.copyFrom(now.market);
        // An IN that is wide enough stays so when it is wider (NOTES.md has the proof), so halving
        // finds how many are too narrow.
        int narrow = 0;
        for (int bit = HIGHEST_BIT; bit > 0; bit >>= 1) {
            if (narrow + bit <= MOST + 1 && isNarrow(zone, narrow + bit - 1)) {
                narrow += bit;
            }
        }
        return narrow > MOST ? NONE : narrow;
    }

    public int freely(int zone) {
        if (!now.market.zones.has(zone)) {
            return NONE;
        }
        trial.market.copyFrom(now.market);
        trial.market.offers.dropFloors();
        trial.clear();
        return at(trial.prices, zone);
    }

    public long gain(int resource, int price, int cost) {
        if (!now.market.offers.has(resource) || !within(price, 0, MOST) || !within(cost, 0, MOST)) {
            return NO_NUMBER;
        }
        trial.market.copyFrom(now.market);
        return gainAt(resource, price, cost);
    }

    public int best(int resource, int cost) {
        if (!now.market.offers.has(resource) || !within(cost, 0, MOST)) {
            return NONE;
        }
        trial.market.copyFrom(now.market);
        int best = 0;
        long most = gainAt(resource, 0, cost);
        for (int price = BEST_STEP; price <= BEST_LAST; price += BEST_STEP) {
            long gained = gainAt(resource, price, cost);
            if (gained > most) {
                most = gained;
                best = price;
            }
        }
        return best;
    }

    private boolean isNarrow(int zone, int in) {
        Zones zones = trial.market.zones;
        put(zones.in, zone, in);
        trial.clear();
        return at(trial.prices, zone) > at(trial.prices, at(zones.outer, zone));
    }

    private long gainAt(int resource, int price, int cost) {
        Offers offers = trial.market.offers;
        offers.dropSteps(resource);
        offers.addStep(resource, at(offers.sizes, resource), price);
        trial.clear();
        int zone = at(offers.zones, resource);
        return (long) trial.takenOf(resource) * (at(trial.prices, zone) - cost);
    }

    // ---- rows and bounds

    private static int at(int[] row, int i) {
        return row != null && i >= 0 && i < row.length ? row[i] : 0;
    }

    private static void put(int[] row, int i, int v) {
        if (row != null && i >= 0 && i < row.length) {
            row[i] = v;
        }
    }

    private static boolean change(int[] row, int i, int v) {
        if (at(row, i) == v) {
            return false;
        }
        put(row, i, v);
        return true;
    }

    private static void copyRow(int[] from, int[] to) {
        if (from != null && to != null) {
            for (int i = 0; i < from.length && i < to.length; i++) {
                to[i] = from[i];
            }
        }
    }

    private static boolean within(int v, int least, int most) {
        return v >= least && v <= most;
    }

    /** The zones, their limits and their curves. */
    private static final class Zones {
        int many = 1;
        /** Of ZONE 0, which has none, nothing is read here. */
        final int[] outer = new int[MOST_ZONES];
        final int[] in = new int[MOST_ZONES];
        final int[] out = new int[MOST_ZONES];
        final int[] points = new int[MOST_ZONES];
        final int[] pointUnits = new int[MOST_ZONES * MOST_POINTS];
        final int[] pointPrices = new int[MOST_ZONES * MOST_POINTS];

        void copyFrom(Zones other) {
            if (other == null) {
                return;
            }
            many = other.many;
            copyRow(other.outer, outer);
            copyRow(other.in, in);
            copyRow(other.out, out);
            copyRow(other.points, points);
            copyRow(other.pointUnits, pointUnits);
            copyRow(other.pointPrices, pointPrices);
        }

        boolean has(int zone) {
            return zone >= 0 && zone < many;
        }

        boolean hasInner(int zone) {
            return zone != 0 && has(zone);
        }

        int add(int itsOuter, int itsIn, int itsOut) {
            int zone = many;
            put(outer, zone, itsOuter);
            put(in, zone, itsIn);
            put(out, zone, itsOut);
            put(points, zone, 0);
            many = zone + 1;
            return zone;
        }

        int addPoint(int zone, int units, int itsPrice) {
            int had = at(points, zone);
            put(pointUnits, zone * MOST_POINTS + had, units);
            put(pointPrices, zone * MOST_POINTS + had, itsPrice);
            put(points, zone, had + 1);
            return had + 1;
        }

        int dropPoints(int zone) {
            int had = at(points, zone);
            put(points, zone, 0);
            return had;
        }

        int wanted(int zone) {
            int had = at(points, zone);
            return had == 0 ? 0 : at(pointUnits, zone * MOST_POINTS + had - 1);
        }

        /** What the first unit is worth, 0 if none is wanted. */
        int firstPrice(int zone) {
            return at(points, zone) == 0 ? 0 : at(pointPrices, zone * MOST_POINTS);
        }

        int lastPrice(int zone) {
            int had = at(points, zone);
            return had == 0 ? MOST : at(pointPrices, zone * MOST_POINTS + had - 1);
        }

        int worthOf(int zone, int u) {
            if (u < 1) {
                return NONE;
            }
            int x = 0;
            // Beginning with the first point's own price, nothing falls up to it.
            int v = at(pointPrices, zone * MOST_POINTS);
            for (int i = 0; i < at(points, zone); i++) {
                int y = at(pointUnits, zone * MOST_POINTS + i);
                int w = at(pointPrices, zone * MOST_POINTS + i);
                if (u <= y) {
                    return v - fallen(v - w, u - x, y - x);
                }
                x = y;
                v = w;
            }
            return NONE;
        }

        /** How much a unit is less worth than a point, going by so many units on to the next. */
        private static int fallen(int fall, int on, int length) {
            return length > 0 ? fall * on / length : 0;
        }

        /** What the most worth units, so many of them, are worth together. */
        long worthOfFirst(int zone, int units) {
            long sum = 0;
            int x = 0;
            int v = at(pointPrices, zone * MOST_POINTS);
            for (int i = 0; i < at(points, zone); i++) {
                int y = at(pointUnits, zone * MOST_POINTS + i);
                int w = at(pointPrices, zone * MOST_POINTS + i);
                int last = Math.min(units, y);
                for (int u = x + 1; u <= last; u++) {
                    sum += v - fallen(v - w, u - x, y - x);
                }
                x = y;
                v = w;
            }
            return sum;
        }

        /** How many units are worth a price (0 to 10000) or more. */
        int wantedFrom(int zone, int least) {
            int x = 0;
            int v = 0;
            for (int i = 0; i < at(points, zone); i++) {
                int y = at(pointUnits, zone * MOST_POINTS + i);
                int w = at(pointPrices, zone * MOST_POINTS + i);
                if (w < least) {
                    return i == 0 ? 0 : x + wantedBetween(v, w, y - x, least);
                }
                x = y;
                v = w;
            }
            return x;
        }

        private static int wantedBetween(int v, int w, int length, int least) {
            int fall = v - w;
            if (fall <= 0) {
                return 0;
            }
            // fall * k / length, downwards, is v - least at most: so fall * k is below what is here.
            return ((v - least + 1) * length - 1) / fall;
        }

        int cut(int zone, int units) {
            return Math.max(-at(in, zone), Math.min(at(out, zone), units));
        }
    }

    /** The floors, the ceiling, the resources and their steps. */
    private static final class Offers {
        int many;
        int ceiling = MOST;
        final int[] floors = new int[KINDS];
        final int[] zones = new int[MOST_RESOURCES];
        final int[] sizes = new int[MOST_RESOURCES];
        final int[] kinds = new int[MOST_RESOURCES];
        final int[] owners = new int[MOST_RESOURCES];
        final int[] must = new int[MOST_RESOURCES];
        final int[] free = new int[MOST_RESOURCES];
        final int[] steps = new int[MOST_RESOURCES];
        final int[] stepUnits = new int[MOST_RESOURCES * MOST_STEPS];
        final int[] stepPrices = new int[MOST_RESOURCES * MOST_STEPS];

        void copyFrom(Offers other) {
            if (other == null) {
                return;
            }
            many = other.many;
            ceiling = other.ceiling;
            copyRow(other.floors, floors);
            copyRow(other.zones, zones);
            copyRow(other.sizes, sizes);
            copyRow(other.kinds, kinds);
            copyRow(other.owners, owners);
            copyRow(other.must, must);
            copyRow(other.free, free);
            copyRow(other.steps, steps);
            copyRow(other.stepUnits, stepUnits);
            copyRow(other.stepPrices, stepPrices);
        }

        boolean has(int resource) {
            return resource >= 0 && resource < many;
        }

        int add(int itsZone, int size, int kind, int owner, boolean isMust, boolean isFree) {
            int resource = many;
            put(zones, resource, itsZone);
            put(sizes, resource, size);
            put(kinds, resource, kind);
            put(owners, resource, owner);
            put(must, resource, isMust ? 1 : 0);
            put(free, resource, isFree ? 1 : 0);
            put(steps, resource, 0);
            many = resource + 1;
            return resource;
        }

        int addStep(int resource, int units, int itsPrice) {
            int had = at(steps, resource);
            put(stepUnits, resource * MOST_STEPS + had, units);
            put(stepPrices, resource * MOST_STEPS + had, itsPrice);
            put(steps, resource, had + 1);
            return had + 1;
        }

        int dropSteps(int resource) {
            int had = at(steps, resource);
            put(steps, resource, 0);
            return had;
        }

        int lastPrice(int resource) {
            int had = at(steps, resource);
            return had == 0 ? 0 : at(stepPrices, resource * MOST_STEPS + had - 1);
        }

        /** What its size is more than its steps; below 0 if it is less. */
        int rest(int resource) {
            int units = at(sizes, resource);
            for (int i = 0; i < at(steps, resource); i++) {
                units -= at(stepUnits, resource * MOST_STEPS + i);
            }
            return units;
        }

        boolean changeCeiling(int v) {
            if (ceiling == v) {
                return false;
            }
            ceiling = v;
            return true;
        }

        void dropFloors() {
            for (int kind = 0; kind < KINDS; kind++) {
                put(floors, kind, 0);
            }
        }

        /** Leaves a resource without any line. */
        void silence(int resource) {
            put(steps, resource, 0);
            put(must, resource, 0);
        }

        void silenceOwner(int owner) {
            for (int r = 0; r < many; r++) {
                if (at(owners, r) == owner) {
                    silence(r);
                }
            }
        }

        int bitsIn(int zone) {
            int bits = 0;
            for (int r = 0; r < many; r++) {
                if (at(zones, r) == zone) {
                    bits |= 1 << r;
                }
            }
            return bits;
        }

        boolean hasLine(int resource, int line) {
            return has(resource) && within(line, 0, LINES - 1) && unitsOf(resource, line) > 0;
        }

        /** Units of a line, 0 if there is none such. */
        int unitsOf(int resource, int line) {
            if (line == REST_LINE) {
                return at(must, resource) == 1 ? rest(resource) : 0;
            }
            return line < at(steps, resource) ? at(stepUnits, resource * MOST_STEPS + line) : 0;
        }

        int itsOf(int resource, int line) {
            if (line == REST_LINE) {
                return 0;
            }
            int its = at(stepPrices, resource * MOST_STEPS + line);
            if (at(free, resource) == 0) {
                its = Math.max(its, at(floors, at(kinds, resource)));
            }
            return at(must, resource) == 1 ? Math.min(its, ceiling) : its;
        }
    }

    /** All that is kept and gone back to. */
    private static final class Market {
        final Zones zones = new Zones();
        final Offers offers = new Offers();

        void copyFrom(Market other) {
            if (other != null) {
                zones.copyFrom(other.zones);
                offers.copyFrom(other.offers);
            }
        }
    }

    /** A market and how it is cleared. */
    private static final class Auction {
        final Market market = new Market();
        final int[] prices = new int[MOST_ZONES];
        final int[] nets = new int[MOST_ZONES];
        final int[] servedUnits = new int[MOST_ZONES];
        final int[] takenUnits = new int[MOST_RESOURCES * LINES];
        private final int[] units = new int[MOST_RESOURCES * LINES];
        private final int[] its = new int[MOST_RESOURCES * LINES];
        private final int[] levels = new int[MOST_ZONES];
        private final int[] lows = new int[MOST_ZONES];
        private final int[] highs = new int[MOST_ZONES];
        /** The price that lows and highs were filled at, NONE ahead of any. */
        private int filledAt;
        /**
         * The highest worth of a unit. No price is above it: there HIGH of each zone is 0 or more, and
         * a zone out of which more goes has as much already at the price of its outer one.
         */
        private int top;

        void clear() {
            readLines();
            readTop();
            filledAt = NONE;
            put(prices, 0, NONE);
            put(nets, 0, 0);
            for (int z = 0; z < market.zones.many; z++) {
                if (at(prices, z) == NONE) {
                    put(prices, z, leastPrice(z, at(nets, z)));
                }
                part(z);
            }
        }

        int levelOf(int zone, int limit) {
            readLines();
            fillLevels(zone, limit, levels);
            return at(levels, zone);
        }

        private void readLines() {
            Offers offers = market.offers;
            for (int r = 0; r < offers.many; r++) {
                for (int k = 0; k < LINES; k++) {
                    put(units, r * LINES + k, offers.unitsOf(r, k));
                    put(its, r * LINES + k, offers.itsOf(r, k));
                }
            }
        }

        private void readTop() {
            top = 0;
            for (int z = 0; z < market.zones.many; z++) {
                top = Math.max(top, market.zones.firstPrice(z));
            }
        }

        /**
         * LOW at a price of all zones from one on. HIGH at a price is LOW at the next one, prices
         * being whole numbers.
         */
        private void fillLevels(int from, int limit, int[] row) {
            Zones zones = market.zones;
            Offers offers = market.offers;
            for (int z = from; z < zones.many; z++) {
                put(row, z, -zones.wantedFrom(z, limit));
            }
            for (int r = 0; r < offers.many; r++) {
                int z = at(offers.zones, r);
                if (z >= from) {
                    put(row, z, at(row, z) + unitsBelow(r, limit));
                }
            }
            // Inner zones have higher numbers, so each is whole before its outer one counts it.
            for (int z = zones.many - 1; z > from; z--) {
                int outer = at(zones.outer, z);
                if (outer >= from) {
                    put(row, outer, at(row, outer) + zones.cut(z, at(row, z)));
                }
            }
        }

        private int unitsBelow(int resource, int limit) {
            int sum = 0;
            for (int i = resource * LINES; i < resource * LINES + LINES; i++) {
                if (at(its, i) < limit) {
                    sum += at(units, i);
                }
            }
            return sum;
        }

        /** The least price by which HIGH of a zone is as many units or more. */
        private int leastPrice(int zone, int least) {
            int tooLow = 0;
            for (int bit = HIGHEST_BIT; bit > 0; bit >>= 1) {
                if (tooLow + bit <= top) {
                    // HIGH at the last of so many prices, all of which may be too low
                    fillLevels(zone, tooLow + bit, levels);
                    if (at(levels, zone) < least) {
                        tooLow += bit;
                    }
                }
            }
            return tooLow;
        }

        /** Parts what a zone has at its price to its lines, its inner zones, its units. */
        private void part(int zone) {
            int p = at(prices, zone);
            // Most zones have the price of their outer one, with which they were filled already.
            if (p != filledAt) {
                fillLevels(zone, p, lows);
                fillLevels(zone, p + 1, highs);
                filledAt = p;
            }
            int left = at(nets, zone) - at(lows, zone);
            left = partToLines(zone, p, left);
            left = partToInner(zone, p, left);
            put(servedUnits, zone, market.zones.wantedFrom(zone, p) - left);
        }

        private int partToLines(int zone, int p, int had) {
            Offers offers = market.offers;
            int left = had;
            for (int i = 0; i < offers.many * LINES; i++) {
                if (at(offers.zones, i / LINES) == zone) {
                    int most = at(its, i) < p ? at(units, i) : 0;
                    if (at(its, i) == p) {
                        most = Math.min(left, at(units, i));
                        left -= most;
                    }
                    put(takenUnits, i, most);
                }
            }
            return left;
        }

        private int partToInner(int zone, int p, int had) {
            Zones zones = market.zones;
            int left = had;
            for (int z = zone + 1; z < zones.many; z++) {
                if (at(zones.outer, z) == zone) {
                    int low = at(lows, z);
                    int high = at(highs, z);
                    int cutLow = zones.cut(z, low);
                    int given = Math.min(left, zones.cut(z, high) - cutLow);
                    left -= given;
                    int net = cutLow + given;
                    put(nets, z, net);
                    put(prices, z, low <= net && net <= high ? p : NONE);
                }
            }
            return left;
        }

        int takenOf(int resource) {
            int sum = 0;
            for (int i = resource * LINES; i < resource * LINES + LINES; i++) {
                sum += at(takenUnits, i);
            }
            return sum;
        }

        int boundOf(int zone) {
            Zones zones = market.zones;
            int net = at(nets, zone);
            int above = at(prices, zone) - at(prices, at(zones.outer, zone));
            if (above > 0 && net == -at(zones.in, zone)) {
                return 1;
            }
            return above < 0 && net == at(zones.out, zone) ? 2 : 0;
        }

        long surplusOfAll() {
            long sum = 0;
            for (int z = 0; z < market.zones.many; z++) {
                sum += market.zones.worthOfFirst(z, at(servedUnits, z));
            }
            for (int i = 0; i < market.offers.many * LINES; i++) {
                sum -= (long) at(its, i) * at(takenUnits, i);
            }
            return sum;
        }

        long rentOf(int zone) {
            int outer = at(market.zones.outer, zone);
            return (long) at(nets, zone) * (at(prices, outer) - at(prices, zone));
        }

        long paidTo(int resource) {
            return (long) at(prices, at(market.offers.zones, resource)) * takenOf(resource);
        }

        long paidToOwner(int owner) {
            Offers offers = market.offers;
            long sum = 0;
            for (int r = 0; r < offers.many; r++) {
                if (at(offers.owners, r) == owner) {
                    sum += paidTo(r);
                }
            }
            return sum;
        }
    }

    /** The bytes that were fed and not told yet. */
    private static final class Tape {
        final int[] bytes = new int[MOST_BYTES];
        int length;

        void append(int four) {
            for (int shift = 24; shift >= 0; shift -= 8) {
                put(bytes, length, (four >>> shift) & 255);
                length++;
            }
        }
    }

    /** Tells the tape, a statement at a time, to a draft of the market. */
    private static final class Teller {
        private static final int WORD = 0;
        private static final int NUMBER = 1;
        private static final int SEMICOLON = 2;
        private static final int END = 3;
        private static final int OTHER = 4;

        private static final int MISPLACED = 1;
        private static final int OUT_OF_BOUNDS = 2;
        private static final int TOO_MANY = 3;
        private static final int TOO_BIG = 4;
        private static final int PLACES = 8;
        private static final int DIGITS = 4;

        final Tape tape = new Tape();
        final Market draft = new Market();
        int fault;
        /** The token that stands next, and where the text goes on behind it. */
        private int token;
        private int place;
        private int number;
        private int next;
        /** The number that was taken last. */
        private int got;

        /** How many statements there are; NONE if there is a fault, which then is set. */
        int tellAll() {
            fault = 0;
            next = 0;
            advance();
            int statements = 0;
            while (token != END && statements < MOST_BYTES) {
                if (!tellStatement()) {
                    return NONE;
                }
                statements++;
            }
            return statements;
        }

        private boolean tellStatement() {
            if (isWord("zone")) {
                return tellZone();
            }
            if (isWord("curve")) {
                return tellCurve();
            }
            if (isWord("resource")) {
                return tellResource();
            }
            if (isWord("offer")) {
                return tellOffer();
            }
            if (isWord("floor")) {
                return tellFloor();
            }
            if (isWord("ceiling")) {
                return tellCeiling();
            }
            return isWord("limits") ? tellLimits() : blame(MISPLACED, place);
        }

        private boolean tellZone() {
            Zones zones = draft.zones;
            if (zones.many >= MOST_ZONES) {
                return blame(TOO_MANY, place);
            }
            advance();
            if (!takeNumber(0, zones.many - 1)) {
                return false;
            }
            int outer = got;
            if (!takeNumber(0, MOST)) {
                return false;
            }
            int in = got;
            if (!takeNumber(0, MOST)) {
                return false;
            }
            zones.add(outer, in, got);
            return takeEnd();
        }

        private boolean tellCurve() {
            Zones zones = draft.zones;
            advance();
            if (!takeNumber(0, zones.many - 1)) {
                return false;
            }
            int zone = got;
            zones.dropPoints(zone);
            for (int i = 0; i <= MOST_POINTS && token == NUMBER; i++) {
                if (i == MOST_POINTS) {
                    return blame(TOO_MANY, place);
                }
                if (!takeNumber(zones.wanted(zone) + 1, MOST_WANTED)) {
                    return false;
                }
                int units = got;
                if (!takeNumber(0, zones.lastPrice(zone))) {
                    return false;
                }
                zones.addPoint(zone, units, got);
            }
            return takeEnd();
        }

        private boolean tellResource() {
            Offers offers = draft.offers;
            if (offers.many >= MOST_RESOURCES) {
                return blame(TOO_MANY, place);
            }
            advance();
            if (!takeNumber(0, draft.zones.many - 1)) {
                return false;
            }
            int zone = got;
            if (!takeNumber(1, MOST_SIZE)) {
                return false;
            }
            int size = got;
            if (!takeNumber(0, KINDS - 1)) {
                return false;
            }
            int kind = got;
            if (!takeNumber(0, OWNERS - 1)) {
                return false;
            }
            int owner = got;
            boolean must = takeWord("must");
            boolean free = takeWord("free");
            offers.add(zone, size, kind, owner, must, free);
            return takeEnd();
        }

        private boolean tellOffer() {
            Offers offers = draft.offers;
            int word = place;
            advance();
            if (!takeNumber(0, offers.many - 1)) {
                return false;
            }
            int resource = got;
            offers.dropSteps(resource);
            for (int i = 0; i <= MOST_STEPS && token == NUMBER; i++) {
                if (i == MOST_STEPS) {
                    return blame(TOO_MANY, place);
                }
                if (!takeNumber(1, MOST_SIZE)) {
                    return false;
                }
                int units = got;
                if (!takeNumber(offers.lastPrice(resource), MOST)) {
                    return false;
                }
                offers.addStep(resource, units, got);
            }
            if (!takeEnd()) {
                return false;
            }
            return offers.rest(resource) >= 0 || blame(TOO_BIG, word);
        }

        private boolean tellFloor() {
            advance();
            if (!takeNumber(0, KINDS - 1)) {
                return false;
            }
            int kind = got;
            if (!takeNumber(0, MOST)) {
                return false;
            }
            put(draft.offers.floors, kind, got);
            return takeEnd();
        }

        private boolean tellCeiling() {
            advance();
            if (!takeNumber(0, MOST)) {
                return false;
            }
            draft.offers.ceiling = got;
            return takeEnd();
        }

        private boolean tellLimits() {
            Zones zones = draft.zones;
            advance();
            if (!takeNumber(1, zones.many - 1)) {
                return false;
            }
            int zone = got;
            if (!takeNumber(0, MOST)) {
                return false;
            }
            put(zones.in, zone, got);
            if (!takeNumber(0, MOST)) {
                return false;
            }
            put(zones.out, zone, got);
            return takeEnd();
        }

        private boolean takeNumber(int least, int most) {
            if (token != NUMBER || next - place > DIGITS) {
                return blame(MISPLACED, place);
            }
            if (!within(number, least, most)) {
                return blame(OUT_OF_BOUNDS, place);
            }
            got = number;
            advance();
            return true;
        }

        private boolean takeWord(String word) {
            if (!isWord(word)) {
                return false;
            }
            advance();
            return true;
        }

        private boolean takeEnd() {
            if (token != SEMICOLON) {
                return blame(MISPLACED, place);
            }
            advance();
            return true;
        }

        private boolean blame(int kind, int where) {
            fault = kind + PLACES * where;
            return false;
        }

        private boolean isWord(String word) {
            if (word == null || token != WORD || next - place != word.length()) {
                return false;
            }
            for (int i = 0; i < word.length(); i++) {
                if (word.charAt(i) != at(tape.bytes, place + i)) {
                    return false;
                }
            }
            return true;
        }

        private void advance() {
            while (next < tape.length && isBlank(at(tape.bytes, next))) {
                next++;
            }
            place = next;
            number = 0;
            if (next >= tape.length) {
                token = END;
                return;
            }
            int first = at(tape.bytes, next);
            if (isLetter(first)) {
                token = WORD;
                while (next < tape.length && isLetter(at(tape.bytes, next))) {
                    next++;
                }
            } else if (isDigit(first)) {
                token = NUMBER;
                while (next < tape.length && isDigit(at(tape.bytes, next))) {
                    number = number * 10 + at(tape.bytes, next) - '0';
                    next++;
                }
            } else {
                token = first == ';' ? SEMICOLON : OTHER;
                next++;
            }
        }

        private static boolean isBlank(int b) {
            return b == 32 || b == 10;
        }

        private static boolean isLetter(int b) {
            return b >= 'a' && b <= 'z';
        }

        private static boolean isDigit(int b) {
            return b >= '0' && b <= '9';
        }
    }
}
