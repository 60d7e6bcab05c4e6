/**
 * LOW, HIGH and what is CLEARED, at their edges, with answers worked out by hand: a unit, a price more
 * or less than what the document's sentence speaks of.
 */
public final class ClearedEdgesTest {
    private static final int MIN = Integer.MIN_VALUE;
    private static final int MAX = Integer.MAX_VALUE;
    private static final int NO_UNITS = -1000000;
    private static final long NO = -1000000000000000L;

    private ClearedEdgesTest() {
    }

    public static void main(String[] args) {
        levelOfNone();
        linesBelowAPrice();
        unitsWorthAPrice();
        cutByIn();
        cutByOut();
        cutByNothing();
        cutTwice();
        priceOfNothing();
        priceByWhichHighIsZero();
        priceAtTheEnds();
        priceOfEach();
        priceOfOuterAboveLow();
        priceOfOuterBelowHigh();
        leastPriceOfAnInnerOne();
        ownLinesFirst();
        linesByResourcesThenNumbers();
        linesBetween();
        zonesByNumbers();
        whatIsLeftIsNotServed();
        unitsWorthMoreAreServed();
        netOfZoneZero();
        bindsIn();
        bindsOut();
        bindsShut();
        anOrdinaryMarket();
        zonesThereAreNoneOf();
        takenOfNone();
        takenOfEmptyAndFull();
        paidOfNone();
        paidOfEmptyAndFull();
        surplusOfNothing();
        surplusOfAll();
        clearedBehindBack();
        looksChangeNothing();
        Check.finish();
    }

    private static void due(String call, long got, long want) {
        Check.due(call, got, want);
    }

    private static void due(String call, boolean got, boolean want) {
        Check.due(call, got, want);
    }

    /** ZONE 0 wants so many units at a price. */
    private static ZoneCapacity wanting(int units, int price) {
        ZoneCapacity x = new ZoneCapacity();
        if (units > 0) {
            due("7 point", x.point(0, units, price), 1);
        }
        return x;
    }

    /** One RESOURCE more, of KIND 0 and OWNER 0, with one STEP. */
    private static void offer(ZoneCapacity x, int zone, int units, int price) {
        int r = x.resource(zone, units, 0, 0, false);
        due("9 step", x.step(r, units, price), 1);
    }

    private static void refused(String name, long answer, Twins.Call call) {
        Twins.same(name, Markets::ordinary, call, answer);
    }

    // ---- level(): at a price (0 to 9999). -1000000: there are none such
    private static void levelOfNone() {
        for (int price : new int[] {-1, 10000, MIN, MAX}) {
            refused("20 low at " + price, NO_UNITS, x -> x.level(0, price, false));
            refused("20 high at " + price, NO_UNITS, x -> x.level(0, price, true));
        }
        for (int zone : new int[] {-1, 3, MIN, MAX}) {
            refused("20 low of " + zone, NO_UNITS, x -> x.level(zone, 0, false));
            refused("20 high of " + zone, NO_UNITS, x -> x.level(zone, 0, true));
        }
        Twins.same("20 of zone 1 of 1", Markets::empty, x -> x.level(1, 0, true), NO_UNITS);
        Twins.same("20 of zone 6 of 6", Markets::full, x -> x.level(6, 0, true), NO_UNITS);
        for (int price : new int[] {0, 9999}) {
            Twins.same("20 low of nothing", Markets::empty, x -> x.level(0, price, false), 0);
            Twins.same("20 high of nothing", Markets::empty, x -> x.level(0, price, true), 0);
        }
        // of 4 units two lines of 2 each are left in zone 5, three steps each
        Twins.same("20 low of the last at 0", Markets::full, x -> x.level(5, 0, false), -4);
        Twins.same("20 high of the last at 9999", Markets::full, x -> x.level(5, 9999, true), 12);
    }

    // ---- LOW: LINES of ITS below p. HIGH: of ITS p or below
    private static void linesBelowAPrice() {
        ZoneCapacity x = new ZoneCapacity();
        offer(x, 0, 3, 10);
        offer(x, 0, 2, 0);
        offer(x, 0, 1, 9999);
        int[][] due = {{0, 0, 2}, {1, 2, 2}, {9, 2, 2}, {10, 2, 5}, {11, 5, 5}, {9998, 5, 5}, {9999, 5, 6}};
        for (int[] each : due) {
            due("20 low at " + each[0], x.level(0, each[0], false), each[1]);
            due("20 high at " + each[0], x.level(0, each[0], true), each[2]);
        }
        x.set(0, 0, 11);
        due("20 by its price, not its step's", x.level(0, 11, false), 0);
        due("20 by its price, not its step's", x.level(0, 11, true), 5);
    }

    // ---- LOW: less units WORTH p or more. HIGH: less units WORTH more than p
    private static void unitsWorthAPrice() {
        ZoneCapacity x = new ZoneCapacity();
        x.point(0, 1, 9999);
        x.point(0, 2, 10);
        x.point(0, 4, 10);
        x.point(0, 5, 0);
        int[][] due = {{0, -5, -4}, {1, -4, -4}, {9, -4, -4}, {10, -4, -1}, {11, -1, -1}, {9998, -1, -1}, {9999, -1, 0}};
        for (int[] each : due) {
            due("20 low at " + each[0], x.level(0, each[0], false), each[1]);
            due("20 high at " + each[0], x.level(0, each[0], true), each[2]);
        }
    }

    // ---- LOW, HIGH of c, but not below 0 less IN of c
    private static void cutByIn() {
        for (int wanted = 1; wanted <= 4; wanted++) {
            ZoneCapacity x = new ZoneCapacity();
            x.zone(0, 2, 0);
            x.point(1, wanted, 50);
            int cut = -Math.min(2, wanted);
            due("20 low of 1", x.level(1, 50, false), -wanted);
            due("20 high of 1", x.level(1, 49, true), -wanted);
            due("20 low of 0", x.level(0, 50, false), cut);
            due("20 high of 0", x.level(0, 49, true), cut);
            due("20 nothing any more", x.level(0, 50, true), 0);
        }
    }

    // ---- LOW, HIGH of c, not above OUT of c
    private static void cutByOut() {
        for (int offered = 1; offered <= 4; offered++) {
            ZoneCapacity x = new ZoneCapacity();
            x.zone(0, 0, 2);
            offer(x, 1, offered, 50);
            int cut = Math.min(2, offered);
            due("20 low of 1", x.level(1, 51, false), offered);
            due("20 high of 1", x.level(1, 50, true), offered);
            due("20 low of 0", x.level(0, 51, false), cut);
            due("20 high of 0", x.level(0, 50, true), cut);
            due("20 nothing yet", x.level(0, 50, false), 0);
        }
    }

    // ---- IN and OUT of 0: nothing goes; of 9999: all there can be
    private static void cutByNothing() {
        ZoneCapacity x = new ZoneCapacity();
        x.zone(0, 0, 0);
        x.point(1, 5, 50);
        due("20 none in", x.level(0, 50, false), 0);
        offer(x, 1, 9, 10);
        due("20 none out", x.level(0, 60, true), 0);
        x.set(2, 1, 9999);
        x.set(3, 1, 9999);
        due("20 all in", x.level(0, 10, false), -5);
        due("20 all out", x.level(0, 60, true), 9);
    }

    // ---- a ZONE in a ZONE in a ZONE: cut by each
    private static void cutTwice() {
        ZoneCapacity x = new ZoneCapacity();
        x.zone(0, 3, 4);
        x.zone(1, 5, 6);
        x.zone(0, 1, 1);
        x.point(2, 9, 50);
        due("20 of 2", x.level(2, 0, false), -9);
        due("20 of 1", x.level(1, 0, false), -5);
        due("20 of 0", x.level(0, 0, false), -3);
        offer(x, 2, 20, 60);
        due("20 of 2", x.level(2, 60, true), 20);
        due("20 of 1", x.level(1, 60, true), 6);
        due("20 of 0", x.level(0, 60, true), 4);
        due("20 the other one has nothing", x.level(3, 60, true), 0);
        x.point(3, 2, 70);
        due("20 both together", x.level(0, 60, true), 3);
    }

    // ---- PRICE of ZONE 0: the least p, 0 where nothing is wanted
    private static void priceOfNothing() {
        ZoneCapacity x = new ZoneCapacity();
        due("21 nothing", x.price(0), 0);
        offer(x, 0, 5, 10);
        due("21 nothing wanted", x.price(0), 0);
        due("24 none taken", x.taken(0, 0), 0);
        x = wanting(3, 0);
        due("21 wanted for 0", x.price(0), 0);
        due("23 and not served", x.served(0), 0);
        offer(x, 0, 2, 0);
        due("21 offered for 0", x.price(0), 0);
        due("24 taken all the same", x.taken(0, 0), 2);
        due("23 and served", x.served(0), 2);
        due("26 worth nothing", x.surplus(), 0);
        x = wanting(3, 1);
        due("21 wanted for 1, none offered", x.price(0), 1);
        offer(x, 0, 3, 0);
        due("21 wanted for 1, offered for 0", x.price(0), 0);
        due("26 surplus", x.surplus(), 3);
    }

    // ---- the least p by which HIGH is 0 or more
    private static void priceByWhichHighIsZero() {
        // offered units at their price, for 3 wanted at 50: price, taken, served
        int[][] due = {
            {3, 20, 20, 3, 3}, {2, 20, 50, 2, 2}, {4, 20, 20, 3, 3}, {3, 49, 49, 3, 3}, {3, 50, 50, 3, 3},
            {3, 51, 50, 0, 0}, {2, 49, 50, 2, 2}, {2, 50, 50, 2, 2}, {5, 50, 50, 3, 3}, {1, 0, 50, 1, 1}, {3, 0, 0, 3, 3},
        };
        for (int[] each : due) {
            ZoneCapacity x = wanting(3, 50);
            offer(x, 0, each[0], each[1]);
            String name = each[0] + " at " + each[1];
            due("21 price, " + name, x.price(0), each[2]);
            due("24 taken, " + name, x.taken(0, 0), each[3]);
            due("23 served, " + name, x.served(0), each[4]);
            due("26 surplus, " + name, x.surplus(), each[3] * (50 - each[1]));
        }
    }

    // ---- p (0 to 9999)
    private static void priceAtTheEnds() {
        ZoneCapacity x = wanting(1, 9999);
        due("21 nothing offered", x.price(0), 9999);
        due("23 nothing served", x.served(0), 0);
        offer(x, 0, 1, 9999);
        due("21 offered for as much", x.price(0), 9999);
        due("24 taken", x.taken(0, 0), 1);
        due("23 served", x.served(0), 1);
        due("29 charged", x.charged(0), 9999);
        x = wanting(1, 9998);
        due("21 one less", x.price(0), 9998);
        offer(x, 0, 1, 9999);
        due("21 offered for more", x.price(0), 9998);
        due("24 not taken", x.taken(0, 0), 0);
        x = wanting(1, 9999);
        offer(x, 0, 1, 9998);
        due("21 offered for one less", x.price(0), 9998);
        due("26 surplus", x.surplus(), 1);
        x = new ZoneCapacity();
        x.zone(0, 0, 0);
        x.point(1, 1, 9999);
        due("21 of 0", x.price(0), 0);
        due("21 of 1", x.price(1), 9999);
        due("25 in binds", x.binds(1), 1);
    }

    // ---- p: each of 0 to 9999 may be the least
    private static void priceOfEach() {
        for (int p = 0; p <= 9999; p++) {
            ZoneCapacity x = wanting(1, p);
            due("21 wanted at " + p, x.price(0), p);
            x = wanting(1, 9999);
            offer(x, 0, 1, p);
            due("21 offered at " + p, x.price(0), p);
        }
    }

    // ---- PRICE of another one: that of its OUTER, if by this NET is not below LOW; else the least p
    private static void priceOfOuterAboveLow() {
        for (int offered = 2; offered <= 5; offered++) {
            ZoneCapacity x = wanting(10, 10);
            x.zone(0, 0, 3);
            offer(x, 1, offered, 5);
            boolean more = offered > 3;
            due("21 of 0", x.price(0), 10);
            due("22 of 1", x.net(1), Math.min(3, offered));
            due("21 of 1, " + offered + " offered", x.price(1), more ? 5 : 10);
            due("25 of 1, " + offered + " offered", x.binds(1), more ? 2 : 0);
            due("27 of 1, " + offered + " offered", x.rent(1), more ? 15 : 0);
        }
    }

    // ---- PRICE of another one: that of its OUTER, if by this NET is not above HIGH; else the least p
    private static void priceOfOuterBelowHigh() {
        for (int wanted = 1; wanted <= 4; wanted++) {
            ZoneCapacity x = wanting(1, 30);
            offer(x, 0, 10, 10);
            x.zone(0, 2, 0);
            x.point(1, wanted, 20);
            boolean more = wanted > 2;
            due("21 of 0", x.price(0), 10);
            due("22 of 1", x.net(1), -Math.min(2, wanted));
            due("21 of 1, " + wanted + " wanted", x.price(1), more ? 20 : 10);
            due("23 of 1, " + wanted + " wanted", x.served(1), Math.min(2, wanted));
            due("25 of 1, " + wanted + " wanted", x.binds(1), more ? 1 : 0);
            due("27 of 1, " + wanted + " wanted", x.rent(1), more ? 20 : 0);
        }
    }

    // ---- else the least p by which HIGH is NET or more
    private static void leastPriceOfAnInnerOne() {
        for (int out = 1; out <= 6; out++) {
            ZoneCapacity x = wanting(10, 10);
            x.zone(0, 0, out);
            offer(x, 1, 2, 5);
            offer(x, 1, 2, 7);
            offer(x, 1, 1, 10);
            int[] prices = {5, 5, 7, 7, 10, 10};
            int[] nets = {1, 2, 3, 4, 5, 5};
            due("22 out " + out, x.net(1), nets[out - 1]);
            due("21 out " + out, x.price(1), out == 4 ? 10 : prices[out - 1]);
            due("24 the first, out " + out, x.taken(0, 0), Math.min(2, out));
            due("24 the second, out " + out, x.taken(1, 0), Math.max(0, Math.min(2, out - 2)));
            due("24 the third, out " + out, x.taken(2, 0), Math.max(0, Math.min(1, out - 4)));
        }
        for (int in = 1; in <= 6; in++) {
            ZoneCapacity x = new ZoneCapacity();
            offer(x, 0, 10, 5);
            x.zone(0, in, 0);
            x.point(1, 2, 30);
            x.point(1, 3, 20);
            x.point(1, 5, 20);
            int[] prices = {30, 20, 20, 20, 5, 5};
            due("22 in " + in, x.net(1), -Math.min(5, in));
            due("21 in " + in, x.price(1), prices[in - 1]);
            due("23 in " + in, x.served(1), Math.min(5, in));
        }
    }

    // ---- first its own LINES of ITS p are taken, as much of each as there is; then ZONES, up to HIGH
    private static void ownLinesFirst() {
        // wanted at 9: taken of own lines of 3 and 2, NET of a ZONE that offers 4 with OUT 2, SERVED
        int[][] due = {
            {0, 0, 0, 0, 0}, {1, 1, 0, 0, 1}, {2, 2, 0, 0, 2}, {3, 3, 0, 0, 3}, {4, 3, 1, 0, 4}, {5, 3, 2, 0, 5},
            {6, 3, 2, 1, 6}, {7, 3, 2, 2, 7}, {8, 3, 2, 2, 7}, {9, 3, 2, 2, 7},
        };
        for (int[] each : due) {
            ZoneCapacity x = wanting(each[0], 9);
            x.zone(0, 5, 2);
            offer(x, 0, 3, 9);
            offer(x, 0, 2, 9);
            offer(x, 1, 4, 9);
            String name = each[0] + " wanted";
            due("21 " + name, x.price(0), each[0] == 0 ? 0 : 9);
            due("24 of 0, " + name, x.taken(0, 0), each[1]);
            due("24 of 1, " + name, x.taken(1, 0), each[2]);
            due("22 of 1, " + name, x.net(1), each[3]);
            due("24 of 2, " + name, x.taken(2, 0), each[3]);
            due("23 " + name, x.served(0), each[4]);
            due("25 " + name, x.binds(1), 0);
        }
    }

    // ---- by RESOURCES, then by numbers; those of ITS below p wholly, those above not
    private static void linesByResourcesThenNumbers() {
        for (int wanted = 0; wanted <= 14; wanted++) {
            ZoneCapacity x = wanting(wanted, 9);
            for (int r = 0; r < 2; r++) {
                // a floor of 9 for both of the first lines; the third is above
                x.resource(0, 9, 1, r, false);
                x.step(r, 2, 3);
                x.step(r, 3, 9);
                x.step(r, 4, 10);
            }
            x.resource(0, 2, 2, 2, false);
            x.step(2, 2, 8);
            x.set(0, 1, 9);
            int left = Math.max(0, wanted - 2);
            due("24 below, " + wanted, x.taken(2, 0), Math.min(2, wanted));
            for (int r = 0; r < 2; r++) {
                for (int k = 0; k < 2; k++) {
                    int takes = Math.min(left, 2 + k);
                    left -= takes;
                    due("24 line " + k + " of " + r + ", " + wanted, x.taken(r, k), takes);
                }
                due("24 above, " + wanted, x.taken(r, 2), 0);
            }
            due("21 " + wanted + " wanted", x.price(0), wanted == 0 ? 0 : wanted <= 2 ? 8 : 9);
            due("23 " + wanted + " wanted", x.served(0), Math.min(12, wanted));
        }
    }

    // ---- line 3 has ITS 0, and its number is the last
    private static void linesBetween() {
        for (int wanted = 0; wanted <= 9; wanted++) {
            ZoneCapacity x = wanting(wanted, 5);
            x.resource(0, 4, 0, 0, true);
            x.step(0, 2, 0);
            x.resource(0, 3, 0, 0, true);
            due("21 price", x.price(0), wanted <= 7 ? 0 : 5);
            due("24 line 0", x.taken(0, 0), Math.min(2, wanted));
            due("24 line 3", x.taken(0, 3), Math.max(0, Math.min(2, wanted - 2)));
            due("24 line 3 of the next", x.taken(1, 3), Math.max(0, Math.min(3, wanted - 4)));
            due("24 all of 0", x.taken(0, -1), Math.min(4, wanted));
            due("23 served", x.served(0), Math.min(7, wanted));
        }
    }

    // ---- then ZONES c, by numbers, have NET above LOW, up to HIGH (cut so)
    private static void zonesByNumbers() {
        for (int wanted = 1; wanted <= 12; wanted++) {
            ZoneCapacity x = wanting(wanted, 9);
            // 1 has 2 at 9 above LOW 1, 2 is inside of 1, 3 would take 3 in at 9, 4 has 4, OUT 3
            x.zone(0, 9, 9);
            x.zone(1, 9, 1);
            x.zone(0, 9, 9);
            x.zone(0, 9, 3);
            offer(x, 1, 1, 4);
            offer(x, 1, 2, 9);
            offer(x, 2, 2, 9);
            x.point(3, 3, 9);
            offer(x, 4, 4, 9);
            // LOW cut: 1 of zone 1, -3 of zone 3, 0 of zone 4; HIGH cut: 4, 0, 3
            int left = wanted + 2;
            int first = Math.min(left, 3);
            left -= first;
            int third = Math.min(left, 3);
            left -= third;
            int fourth = Math.min(left, 3);
            left -= fourth;
            String name = ", " + wanted + " wanted";
            due("21 price" + name, x.price(0), 9);
            due("22 of 1" + name, x.net(1), 1 + first);
            due("22 of 3" + name, x.net(3), -3 + third);
            due("22 of 4" + name, x.net(4), fourth);
            due("23 of 0" + name, x.served(0), wanted - left);
            due("23 of 3" + name, x.served(3), 3 - third);
            due("24 own lines of 1 first" + name, x.taken(1, 0), Math.min(2, first));
            due("22 then the one inside" + name, x.net(2), Math.max(0, first - 2));
        }
    }

    // ---- what is left then are units WORTH p that are not SERVED
    private static void whatIsLeftIsNotServed() {
        for (int offered = 0; offered <= 6; offered++) {
            ZoneCapacity x = wanting(5, 30);
            x.point(0, 6, 10);
            x.point(0, 9, 10);
            if (offered > 0) {
                offer(x, 0, offered, 3);
            }
            due("21 " + offered + " offered", x.price(0), offered < 5 ? 30 : 10);
            due("23 " + offered + " offered", x.served(0), offered);
            due("24 " + offered + " offered", x.taken(0, -1), offered == 0 ? -1 : offered);
        }
    }

    // ---- units WORTH more than p are SERVED, those WORTH p but for what was said (the most WORTH ones)
    private static void unitsWorthMoreAreServed() {
        // worth 30 30 27 24 20
        int[] worth = {30, 30, 27, 24, 20};
        int[] prices = {30, 30, 27, 24, 20, 10, 10};
        long sum = 0;
        for (int offered = 0; offered <= 6; offered++) {
            ZoneCapacity x = wanting(2, 30);
            x.point(0, 5, 20);
            if (offered > 0) {
                offer(x, 0, offered, 10);
            }
            sum += offered >= 1 && offered <= 5 ? worth[offered - 1] - 10 : 0;
            due("21 " + offered + " offered", x.price(0), offered < 2 ? 30 : prices[offered]);
            due("23 " + offered + " offered", x.served(0), Math.min(5, offered));
            due("26 " + offered + " offered", x.surplus(), sum);
        }
    }

    // ---- NET: 0 of ZONE 0
    private static void netOfZoneZero() {
        ZoneCapacity x = wanting(3, 9);
        due("22 more wanted", x.net(0), 0);
        offer(x, 0, 9, 1);
        due("22 more offered", x.net(0), 0);
        due("25 of 0", x.binds(0), 0);
        due("27 of 0", x.rent(0), 0);
        Twins.same("22 of 0, full", Markets::full, y -> y.net(0), 0);
        Twins.same("25 of 0, full", Markets::full, y -> y.binds(0), 0);
        Twins.same("27 of 0, full", Markets::full, y -> y.rent(0), 0);
    }

    // ---- IN BINDS, if NET is 0 less IN and its PRICE is above that of OUTER
    private static void bindsIn() {
        // of 3 wanted at 20, offered outside at 10: by IN
        int[][] due = {{0, 1, 0, 20, 0}, {1, 1, -1, 20, 10}, {2, 1, -2, 20, 20}, {3, 0, -3, 10, 0}, {4, 0, -3, 10, 0}};
        for (int[] each : due) {
            ZoneCapacity x = wanting(1, 10);
            offer(x, 0, 10, 10);
            x.zone(0, each[0], 9);
            x.point(1, 3, 20);
            due("25 in " + each[0], x.binds(1), each[1]);
            due("22 in " + each[0], x.net(1), each[2]);
            due("21 in " + each[0], x.price(1), each[3]);
            due("27 in " + each[0], x.rent(1), each[4]);
        }
    }

    // ---- OUT, if NET is OUT and its PRICE is below
    private static void bindsOut() {
        // of 3 offered at 5, wanted outside at 10: by OUT
        int[][] due = {{0, 2, 0, 0, 0}, {1, 2, 1, 5, 5}, {2, 2, 2, 5, 10}, {3, 0, 3, 10, 0}, {4, 0, 3, 10, 0}};
        for (int[] each : due) {
            ZoneCapacity x = wanting(10, 10);
            x.zone(0, 9, each[0]);
            offer(x, 1, 3, 5);
            due("25 out " + each[0], x.binds(1), each[1]);
            due("22 out " + each[0], x.net(1), each[2]);
            due("21 out " + each[0], x.price(1), each[3]);
            due("27 out " + each[0], x.rent(1), each[4]);
        }
    }

    // ---- IN and OUT both 0: NET is both, the PRICE tells which of them binds
    private static void bindsShut() {
        for (int price = 9; price <= 11; price++) {
            ZoneCapacity x = wanting(1, 10);
            x.zone(0, 0, 0);
            x.point(1, 2, price);
            due("21 of 1, wanting at " + price, x.price(1), Math.max(10, price));
            due("25 of 1, wanting at " + price, x.binds(1), price > 10 ? 1 : 0);
        }
        ZoneCapacity x = wanting(1, 10);
        x.zone(0, 0, 0);
        offer(x, 1, 1, 9);
        due("25 of 1, offering", x.binds(1), 2);
        due("21 nothing wanted there", x.price(1), 0);
        due("22 nothing goes", x.net(1), 0);
        due("27 no rent", x.rent(1), 0);
    }

    // ---- all of it, worked out by hand
    private static void anOrdinaryMarket() {
        ZoneCapacity x = Twins.made(Markets::ordinary);
        int[][] zones = {{11, 0, 5, 0}, {11, -2, 3, 0}, {40, -3, 3, 1}};
        long[][] money = {{0, 55}, {0, 33}, {87, 120}};
        for (int z = 0; z < 3; z++) {
            due("21 of " + z, x.price(z), zones[z][0]);
            due("22 of " + z, x.net(z), zones[z][1]);
            due("23 of " + z, x.served(z), zones[z][2]);
            due("25 of " + z, x.binds(z), zones[z][3]);
            due("27 of " + z, x.rent(z), money[z][0]);
            due("29 of " + z, x.charged(z), money[z][1]);
        }
        int[][] taken = {{3, 4, -1, -1, 7}, {2, -1, -1, 2, 4}, {-1, -1, -1, -1, 0}};
        long[] paid = {77, 44, 0};
        for (int r = 0; r < 3; r++) {
            for (int k = 0; k < 4; k++) {
                due("24 of " + r + ", line " + k, x.taken(r, k), taken[r][k]);
            }
            due("24 of " + r, x.taken(r, -1), taken[r][4]);
            due("28 of " + r, x.paid(r), paid[r]);
            due("28 of owner " + r, x.paid(100 + r), paid[r]);
        }
        due("26 surplus", x.surplus(), 120 + 150 + 120 - 21 - 36 - 22);
    }

    // ---- price(), net(), served(), binds(), rent(), charged(): there is none such
    private static void zonesThereAreNoneOf() {
        for (int zone : new int[] {-1, 6, MIN, MAX}) {
            Twins.Maker[] makers = {Markets::empty, Markets::ordinary, Markets::full};
            for (Twins.Maker maker : makers) {
                noZone(maker, zone);
            }
        }
        noZone(Markets::ordinary, 3);
        noZone(Markets::empty, 1);
    }

    private static void noZone(Twins.Maker maker, int zone) {
        Twins.same("21 of " + zone, maker, x -> x.price(zone), -1);
        Twins.same("22 of " + zone, maker, x -> x.net(zone), NO_UNITS);
        Twins.same("23 of " + zone, maker, x -> x.served(zone), -1);
        Twins.same("25 of " + zone, maker, x -> x.binds(zone), -1);
        Twins.same("27 of " + zone, maker, x -> x.rent(zone), NO);
        Twins.same("29 of " + zone, maker, x -> x.charged(zone), NO);
    }

    // ---- taken(): of a line (0 to 3), of all (line NONE). NONE: there is none such
    private static void takenOfNone() {
        for (int r : new int[] {-1, 3, MIN, MAX}) {
            for (int k = -1; k < 4; k++) {
                int line = k;
                refused("24 of " + r, -1, x -> x.taken(r, line));
            }
        }
        for (int k : new int[] {-2, 2, 3, 4, MIN, MAX}) {
            refused("24 line " + k, -1, x -> x.taken(0, k));
        }
        for (int k : new int[] {1, 2, 4}) {
            refused("24 line " + k + " of 1", -1, x -> x.taken(1, k));
        }
        Twins.same("24 of no resource", Markets::empty, x -> x.taken(0, -1), -1);
        Twins.same("24 of the thirteenth", Markets::full, x -> x.taken(12, -1), -1);
    }

    // ---- taken(), of one without a line and of one with all
    private static void takenOfEmptyAndFull() {
        refused("24 of all of no line", 0, x -> x.taken(2, -1));
        for (int k = 0; k < 4; k++) {
            int line = k;
            refused("24 of no line", -1, x -> x.taken(2, line));
        }
        ZoneCapacity x = wanting(500, 9);
        x.resource(0, 500, 0, 0, true);
        x.step(0, 100, 1);
        x.step(0, 150, 2);
        x.step(0, 50, 3);
        int[] due = {100, 150, 50, 200};
        for (int k = 0; k < 4; k++) {
            due("24 line " + k, x.taken(0, k), due[k]);
        }
        due("24 all", x.taken(0, -1), 500);
        due("21 price", x.price(0), 3);
        x.drop(0, false);
        for (int k = 0; k < 4; k++) {
            due("24 nothing wanted, line " + k, x.taken(0, k), 0);
        }
        due("24 nothing wanted", x.taken(0, -1), 0);
    }

    // ---- paid(): of a RESOURCE; of an OWNER (k 100 and its number). NO_NUMBER: there is none such
    private static void paidOfNone() {
        for (int k : new int[] {-1, 3, 12, 99, 106, MIN, MAX}) {
            refused("28 of " + k, NO, x -> x.paid(k));
        }
        for (int k : new int[] {-1, 0, 11, 99, 106}) {
            Twins.same("28 of " + k, Markets::empty, x -> x.paid(k), NO);
        }
        for (int k : new int[] {12, 99, 106}) {
            Twins.same("28 of " + k, Markets::full, x -> x.paid(k), NO);
        }
    }

    // ---- paid(), of nothing and of all
    private static void paidOfEmptyAndFull() {
        for (int k = 100; k < 106; k++) {
            int owner = k;
            Twins.same("28 of an owner of none", Markets::empty, x -> x.paid(owner), 0);
        }
        refused("28 of no line", 0, x -> x.paid(2));
        ZoneCapacity x = wanting(12, 40);
        for (int r = 0; r < 12; r++) {
            x.resource(0, 2, 0, r < 6 ? 0 : 5, false);
            x.step(r, 1, r);
        }
        for (int r = 0; r < 12; r++) {
            due("28 of " + r, x.paid(r), 11);
        }
        due("28 of owner 0", x.paid(100), 66);
        due("28 of owner 5", x.paid(105), 66);
        due("28 of owner 1", x.paid(101), 0);
        due("29 charged", x.charged(0), 132);
    }

    // ---- SURPLUS of nothing
    private static void surplusOfNothing() {
        ZoneCapacity x = new ZoneCapacity();
        due("26 nothing", x.surplus(), 0);
        offer(x, 0, 3, 5);
        due("26 nothing wanted", x.surplus(), 0);
        x = wanting(3, 5);
        due("26 nothing offered", x.surplus(), 0);
        offer(x, 0, 3, 6);
        due("26 offered for more", x.surplus(), 0);
        offer(x, 0, 3, 5);
        due("26 offered for as much", x.surplus(), 0);
        due("24 and taken", x.taken(1, 0), 3);
        offer(x, 0, 1, 4);
        due("26 one offered for less", x.surplus(), 1);
    }

    // ---- SURPLUS of all there may be: 12 RESOURCES with 3 STEPS each, one with line 3, in 6 ZONES
    private static void surplusOfAll() {
        ZoneCapacity x = wanting(500, 9000);
        long due = 0;
        for (int r = 0; r < 12; r++) {
            if (r > 0 && r < 6) {
                x.zone(0, 0, 500);
            }
            x.resource(r % 6, 40, 0, 0, r == 11);
            for (int k = 0; k < 3; k++) {
                x.step(r, 1 + k, 1000 * k + 10 * r);
                due += (1 + k) * (9000 - 1000 * k - 10 * r);
            }
        }
        due += 34 * 9000;
        due("21 price", x.price(0), 9000);
        due("23 served", x.served(0), 12 * 6 + 34);
        due("26 surplus", x.surplus(), due);
        due("28 paid", x.paid(100), 9000L * (12 * 6 + 34));
        due("29 charged", x.charged(0), 9000L * (12 * 6 + 34));
    }

    // ---- all is as was kept: what was cleared with more ZONES, RESOURCES, STEPS, POINTS leaves nothing
    private static void clearedBehindBack() {
        for (int had = 0; had <= 3; had++) {
            ZoneCapacity x = cleared(had);
            x.keep(0);
            for (int r = had; r < 12; r++) {
                x.resource(0, 9, 0, r % 6, r % 2 == 0);
                x.step(r, 2, 9);
                x.step(r, 2, 9);
                x.step(r, 2, 9);
            }
            for (int z = 1; z < 6; z++) {
                x.zone(0, 9, 9);
                x.point(z, 5, 9);
            }
            due("26 surplus with more", x.surplus() > 0, true);
            due("30 would be with more", x.without(11, 0), 9);
            due("31 would be with more", x.pivotal(1, 0), 0);
            x.back(0);
            ZoneCapacity y = cleared(had);
            String name = " behind back, " + had + " had";
            for (int owner = 0; owner < 6; owner++) {
                due("28 owner " + owner + name, x.paid(100 + owner), owner < had ? 9 : 0);
                due("31 owner " + owner + name, x.pivotal(owner, 0), y.pivotal(owner, 0));
            }
            due("21" + name, x.price(0), 9);
            due("23" + name, x.served(0), had);
            for (int r = 0; r < had; r++) {
                due("30" + name, x.without(r, 0), 9);
                due("35" + name, x.gain(r, 0, 0), 9);
            }
            due("30 there is none such" + name, x.without(had, 0), -1);
            Check.dueSame("13 all" + name, Twins.look(x), Twins.look(y));
        }
    }

    /** 8 are wanted at 9, some RESOURCES offer one each at 9. */
    private static ZoneCapacity cleared(int resources) {
        ZoneCapacity x = wanting(8, 9);
        for (int r = 0; r < resources; r++) {
            x.resource(0, 1, 0, r, false);
            x.step(r, 1, 9);
        }
        return x;
    }

    // ---- what is looked at stays as it is
    private static void looksChangeNothing() {
        Twins.Maker[] makers = {Markets::empty, Markets::ordinary, Markets::full};
        for (Twins.Maker maker : makers) {
            Twins.Call[] looks = {
                x -> x.count(3), x -> x.zoneOf(0, 5), x -> x.line(0, 0, true), x -> x.worth(0, 2), x -> x.wants(0, 9),
                x -> x.level(0, 9, true), x -> x.price(0), x -> x.net(1), x -> x.served(1), x -> x.taken(0, 0),
                x -> x.binds(1), x -> x.surplus(), x -> x.rent(1), x -> x.paid(0), x -> x.paid(100), x -> x.charged(1),
                x -> x.fault(),
            };
            for (int i = 0; i < looks.length; i++) {
                Twins.same("look " + i, maker, looks[i], looks[i].on(Twins.made(maker)));
            }
        }
    }
}
