/**
 * What would be, at its edges, with answers worked out by hand. None of these calls changes anything:
 * that is looked at by Twins.
 */
public final class WouldBeEdgesTest {
    private static final int MIN = Integer.MIN_VALUE;
    private static final int MAX = Integer.MAX_VALUE;
    private static final long NO = -1000000000000000L;

    private WouldBeEdgesTest() {
    }

    public static void main(String[] args) {
        withoutOfNone();
        withoutTheLastOne();
        withoutOneThatMust();
        withoutOneOfTwelve();
        pivotalOfNone();
        pivotalAboveCeiling();
        pivotalNotAsItIs();
        pivotalOfEmptyAndAll();
        widerOfNone();
        widerByOneAndByAll();
        widerUpToTheMost();
        needsOfNone();
        needsTheLeast();
        needsZero();
        needsTheMost();
        needsBehindAnother();
        freelyOfNone();
        freelyWithoutFloors();
        gainOfNone();
        gainAtTheEnds();
        gainOfAllItsSize();
        gainByFloorAndCeiling();
        bestOfNone();
        bestOfTheSteps();
        bestTheLeast();
        bestTheFirstAndTheLast();
        looksChangeNothing();
        Check.finish();
    }

    private static void due(String call, long got, long want) {
        Check.due(call, got, want);
    }

    /** ZONE 0 wants so many units at a price. */
    private static ZoneCapacity wanting(int units, int price) {
        ZoneCapacity x = new ZoneCapacity();
        due("7 point", x.point(0, units, price), 1);
        return x;
    }

    /** One RESOURCE more, of KIND 0, with one STEP. */
    private static int offer(ZoneCapacity x, int zone, int owner, int units, int price) {
        int r = x.resource(zone, units, 0, owner, false);
        due("9 step", x.step(r, units, price), 1);
        return r;
    }

    private static void none(String name, long answer, Twins.Call call) {
        Twins.same(name + ", ordinary", Markets::ordinary, call, answer);
    }

    // ---- without(). NONE: there are none such
    private static void withoutOfNone() {
        for (int r : new int[] {-1, 3, MIN, MAX}) {
            none("30 resource " + r, -1, x -> x.without(r, 0));
        }
        for (int zone : new int[] {-1, 3, MIN, MAX}) {
            none("30 zone " + zone, -1, x -> x.without(0, zone));
        }
        Twins.same("30 resource 0 of none", Markets::empty, x -> x.without(0, 0), -1);
        Twins.same("30 resource 12 of 12", Markets::full, x -> x.without(12, 0), -1);
        Twins.same("30 zone 6 of 6", Markets::full, x -> x.without(11, 6), -1);
        int[] due = {30, 30, 40};
        for (int zone = 0; zone < 3; zone++) {
            int z = zone;
            none("30 in zone " + zone, due[zone], x -> x.without(0, z));
            none("30 without what offers nothing", zone == 2 ? 40 : 11, x -> x.without(2, z));
        }
    }

    // ---- were the one RESOURCE not there: no RESOURCE
    private static void withoutTheLastOne() {
        ZoneCapacity x = wanting(1, 50);
        offer(x, 0, 0, 1, 10);
        due("21 price", x.price(0), 10);
        due("30 price", x.without(0, 0), 50);
        offer(x, 0, 0, 1, 20);
        due("30 the other one's price", x.without(0, 0), 20);
        due("30 the first one's price", x.without(1, 0), 10);
    }

    // ---- were one that MUST not there: line 3 neither
    private static void withoutOneThatMust() {
        ZoneCapacity x = wanting(1, 50);
        x.resource(0, 1, 0, 0, true);
        due("21 price", x.price(0), 0);
        due("30 without it", x.without(0, 0), 50);
        x.step(0, 1, 30);
        due("30 with a step", x.without(0, 0), 50);
    }

    // ---- of 12 each one
    private static void withoutOneOfTwelve() {
        ZoneCapacity x = wanting(11, 5000);
        for (int r = 0; r < 12; r++) {
            offer(x, 0, r % 6, 1, 100 * r);
        }
        due("21 price", x.price(0), 1000);
        for (int r = 0; r < 12; r++) {
            due("30 without " + r, x.without(r, 0), r == 11 ? 1000 : 1100);
        }
    }

    // ---- pivotal(). NONE: there are none such
    private static void pivotalOfNone() {
        for (int owner : new int[] {-1, 6, 100, MIN, MAX}) {
            none("31 owner " + owner, -1, x -> x.pivotal(owner, 0));
        }
        for (int zone : new int[] {-1, 3, MIN, MAX}) {
            none("31 zone " + zone, -1, x -> x.pivotal(0, zone));
        }
        Twins.same("31 zone 1 of 1", Markets::empty, x -> x.pivotal(0, 1), -1);
        Twins.same("31 zone 6 of 6", Markets::full, x -> x.pivotal(0, 6), -1);
        for (int owner : new int[] {0, 5}) {
            Twins.same("31 owner " + owner, Markets::empty, x -> x.pivotal(owner, 0), 0);
        }
    }

    // ---- PRICE would be above CEILING
    private static void pivotalAboveCeiling() {
        for (int ceiling = 48; ceiling <= 52; ceiling++) {
            ZoneCapacity x = wanting(2, 50);
            offer(x, 0, 5, 2, 10);
            x.set(1, 0, ceiling);
            due("31 would be 50, ceiling " + ceiling, x.pivotal(5, 0), ceiling < 50 ? 1 : 0);
            due("31 another owner", x.pivotal(4, 0), 0);
        }
        ZoneCapacity x = wanting(2, 9999);
        offer(x, 0, 0, 2, 10);
        due("31 would be 9999, ceiling 9999", x.pivotal(0, 0), 0);
        x.set(1, 0, 9998);
        due("31 would be 9999, ceiling 9998", x.pivotal(0, 0), 1);
    }

    // ---- and is not as it is
    private static void pivotalNotAsItIs() {
        for (int ceiling = 8; ceiling <= 12; ceiling++) {
            ZoneCapacity x = wanting(2, 50);
            offer(x, 0, 0, 2, 10);
            x.set(1, 0, ceiling);
            due("31 is 10, ceiling " + ceiling, x.pivotal(0, 0), ceiling >= 10 ? 1 : 0);
        }
        ZoneCapacity x = wanting(2, 1);
        x.resource(0, 2, 0, 0, true);
        x.set(1, 0, 0);
        due("31 is 0, would be 1, ceiling 0", x.pivotal(0, 0), 1);
    }

    // ---- none of its RESOURCES being there: no RESOURCE, one, all 12
    private static void pivotalOfEmptyAndAll() {
        ZoneCapacity x = wanting(12, 50);
        x.set(1, 0, 40);
        due("31 above already", x.pivotal(0, 0), 0);
        for (int r = 0; r < 12; r++) {
            due("8 resource", offer(x, 0, r / 11, 1, 10), r);
            boolean enough = r == 11;
            due("31 owner 0 with " + (r + 1), x.pivotal(0, 0), enough ? 1 : 0);
            due("31 owner 1 with " + (r + 1), x.pivotal(1, 0), enough ? 1 : 0);
            due("31 owner 2 of none", x.pivotal(2, 0), 0);
        }
        x.drop(0, false);
        x.point(0, 11, 50);
        due("31 eleven wanted: all but one", x.pivotal(0, 0), 1);
        due("31 eleven wanted: one", x.pivotal(1, 0), 0);
        x = wanting(1, 50);
        x.set(1, 0, 40);
        x.resource(0, 1, 0, 3, true);
        due("31 one that must: its rest neither", x.pivotal(3, 0), 1);
    }

    // ---- wider(): a ZONE (not 0), n (1 to 9999). NO_NUMBER: there are none such
    private static void widerOfNone() {
        for (int way = 0; way < 2; way++) {
            boolean out = way == 1;
            for (int n : new int[] {0, -1, 10000, MIN, MAX}) {
                none("32 by " + n, NO, x -> x.wider(1, n, out));
            }
            for (int zone : new int[] {-1, 0, 3, MIN, MAX}) {
                none("32 of " + zone, NO, x -> x.wider(zone, 1, out));
            }
            Twins.same("32 of zone 0 alone", Markets::empty, x -> x.wider(0, 1, out), NO);
            Twins.same("32 of zone 1 of 1", Markets::empty, x -> x.wider(1, 1, out), NO);
            Twins.same("32 of zone 6 of 6", Markets::full, x -> x.wider(6, 1, out), NO);
            for (int n : new int[] {1, 9999}) {
                none("32 of a limit that doesn't bind, by " + n, 0, x -> x.wider(1, n, out));
            }
        }
    }

    // ---- n more: 1, as many as are missing, all
    private static void widerByOneAndByAll() {
        // 4 wanted inside at 30, 10 offered outside at 10; then 4 offered inside at 4, 9 wanted outside at 10
        long[] more = {20, 40, 60, 60, 60};
        for (int n = 1; n <= 5; n++) {
            ZoneCapacity x = wanting(1, 10);
            offer(x, 0, 0, 10, 10);
            x.zone(0, 1, 0);
            x.point(1, 4, 30);
            due("32 in by " + n, x.wider(1, n, false), more[n - 1]);
            due("32 out by " + n, x.wider(1, n, true), 0);
            due("32 in by 9999", x.wider(1, 9999, false), 60);
            due("32 its in stays", x.zoneOf(1, 1), 1);
        }
        long[] saved = {6, 12, 18, 18, 18};
        for (int n = 1; n <= 5; n++) {
            ZoneCapacity x = wanting(9, 10);
            offer(x, 0, 0, 10, 10);
            x.zone(0, 0, 1);
            offer(x, 1, 1, 4, 4);
            due("32 out by " + n, x.wider(1, n, true), saved[n - 1]);
            due("32 in by " + n, x.wider(1, n, false), 0);
            due("32 out by 9999", x.wider(1, 9999, true), 18);
            due("32 its out stays", x.zoneOf(1, 2), 1);
        }
    }

    // ---- n more (up to 9999)
    private static void widerUpToTheMost() {
        for (int limit : new int[] {0, 1, 2, 9998, 9999}) {
            for (int n : new int[] {1, 2, 9998, 9999}) {
                ZoneCapacity x = wanting(1, 10);
                offer(x, 0, 0, 10, 10);
                x.zone(0, limit, limit);
                x.point(1, 4, 30);
                long goes = Math.min(4, limit);
                long would = Math.min(4, limit + n);
                due("32 in " + limit + " by " + n, x.wider(1, n, false), 20 * (would - goes));
                due("32 out " + limit + " by " + n, x.wider(1, n, true), 0);
            }
        }
    }

    // ---- needs(): of a ZONE (not 0). NONE: there is none such (0 to 9999 is always enough: no ZONE
    // wants more units than that where there is another one around its OUTER)
    private static void needsOfNone() {
        for (int zone : new int[] {-1, 0, 3, MIN, MAX}) {
            none("33 of " + zone, -1, x -> x.needs(zone));
        }
        Twins.same("33 of zone 0 alone", Markets::empty, x -> x.needs(0), -1);
        Twins.same("33 of zone 1 of 1", Markets::empty, x -> x.needs(1), -1);
        Twins.same("33 of zone 6 of 6", Markets::full, x -> x.needs(6), -1);
    }

    // ---- the least IN by which its PRICE is not above that of its OUTER
    private static void needsTheLeast() {
        for (int wanted = 1; wanted <= 5; wanted++) {
            for (int in : new int[] {0, wanted - 1, wanted, 9999}) {
                ZoneCapacity x = wanting(1, 10);
                offer(x, 0, 0, 10, 10);
                x.zone(0, in, 0);
                x.point(1, wanted, 30);
                due("33 " + wanted + " wanted, in " + in, x.needs(1), wanted);
                due("33 its in stays", x.zoneOf(1, 1), in);
                x.set(2, 1, wanted - 1);
                due("21 one less: above", x.price(1), 30);
                x.set(2, 1, wanted);
                due("21 just enough: not above", x.price(1), x.price(0));
            }
        }
    }

    // ---- 0: none is needed
    private static void needsZero() {
        ZoneCapacity x = wanting(1, 10);
        x.zone(0, 5, 5);
        due("33 nothing wanted there", x.needs(1), 0);
        x.point(1, 3, 10);
        due("33 wanted at the price outside", x.needs(1), 0);
        x.drop(1, false);
        x.point(1, 3, 11);
        due("33 one above, nothing offered: the more that goes in, the higher outside", x.needs(1), 1);
        offer(x, 1, 0, 3, 2);
        due("33 offered inside", x.needs(1), 0);
        x = wanting(9, 10);
        x.zone(0, 0, 2);
        offer(x, 1, 0, 5, 3);
        due("21 below that of its outer", x.price(1), 3);
        due("33 below is not above, too", x.needs(1), 0);
    }

    // ---- as much as there is: 6000 units offered outside, 8000 wanted inside
    private static void needsTheMost() {
        ZoneCapacity x = new ZoneCapacity();
        for (int z = 1; z < 6; z++) {
            x.zone(z - 1, 9999, 9999);
            x.point(z, 2000, 9999);
        }
        for (int r = 0; r < 12; r++) {
            offer(x, 0, 0, 500, 0);
        }
        due("33 of 1: one more than is there", x.needs(1), 6001);
        x.drop(5, false);
        x.drop(4, false);
        x.drop(3, false);
        due("33 of 1: all that is wanted", x.needs(1), 4000);
        due("33 of 2: what is wanted in it", x.needs(2), 2000);
        due("33 of 5: nothing is wanted", x.needs(5), 0);
    }

    // ---- of a ZONE in another one: not above that of its own OUTER
    private static void needsBehindAnother() {
        ZoneCapacity x = wanting(1, 10);
        offer(x, 0, 0, 10, 10);
        x.zone(0, 2, 0);
        x.zone(1, 0, 0);
        x.point(2, 5, 30);
        due("33 of 2: one more than comes into 1", x.needs(2), 3);
        due("33 of 1: none, 2 being shut", x.needs(1), 0);
        x.set(2, 2, 9);
        due("33 of 1: all that is wanted in 2", x.needs(1), 5);
        x.set(2, 1, 9);
        due("33 of 2: all that is wanted", x.needs(2), 5);
    }

    // ---- freely(). NONE: there is none such
    private static void freelyOfNone() {
        for (int zone : new int[] {-1, 3, MIN, MAX}) {
            none("34 of " + zone, -1, x -> x.freely(zone));
        }
        Twins.same("34 of zone 1 of 1", Markets::empty, x -> x.freely(1), -1);
        Twins.same("34 of zone 6 of 6", Markets::full, x -> x.freely(6), -1);
        Twins.same("34 of nothing", Markets::empty, x -> x.freely(0), 0);
    }

    // ---- were all FLOORS 0
    private static void freelyWithoutFloors() {
        for (int kind = 0; kind < 4; kind++) {
            for (int floor : new int[] {0, 9, 10, 11, 49, 50, 51, 9999}) {
                ZoneCapacity x = wanting(1, 50);
                x.resource(0, 1, kind, 0, false);
                x.step(0, 1, 10);
                x.set(0, kind, floor);
                due("21 floor " + floor, x.price(0), Math.min(50, Math.max(10, floor)));
                due("34 floor " + floor, x.freely(0), 10);
                due("14 it stays", x.count(10 + kind), floor);
            }
        }
        ZoneCapacity x = wanting(1, 50);
        x.resource(0, 1, 2, 0, false);
        x.step(0, 1, 0);
        x.set(0, 2, 1);
        due("21 offered at 0, floor 1", x.price(0), 1);
        due("34 offered at 0, floor 1", x.freely(0), 0);
        x = wanting(4, 50);
        for (int kind = 0; kind < 4; kind++) {
            x.resource(0, 1, kind, 0, kind == 3);
            x.step(kind, 1, 10 * kind);
            x.set(0, kind, 45 + kind);
        }
        due("21 all floors", x.price(0), 48);
        due("34 no floor", x.freely(0), 30);
        x.set(1, 0, 25);
        due("34 the ceiling stays", x.freely(0), 25);
    }

    // ---- gain(): at a price (0 to 9999), cost 0 to 9999. NO_NUMBER: there are none such
    private static void gainOfNone() {
        for (int r : new int[] {-1, 3, MIN, MAX}) {
            none("35 resource " + r, NO, x -> x.gain(r, 0, 0));
        }
        for (int v : new int[] {-1, 10000, MIN, MAX}) {
            none("35 price " + v, NO, x -> x.gain(0, v, 0));
            none("35 cost " + v, NO, x -> x.gain(0, 0, v));
        }
        Twins.same("35 resource 0 of none", Markets::empty, x -> x.gain(0, 0, 0), NO);
        Twins.same("35 resource 12 of 12", Markets::full, x -> x.gain(12, 0, 0), NO);
    }

    // ---- price and cost at their ends
    private static void gainAtTheEnds() {
        ZoneCapacity x = wanting(3, 9999);
        x.resource(0, 3, 0, 0, false);
        due("35 price 0, cost 0", x.gain(0, 0, 0), 0);
        due("35 price 9999, cost 0", x.gain(0, 9999, 0), 29997);
        due("35 price 9999, cost 9999", x.gain(0, 9999, 9999), 0);
        due("35 price 0, cost 9999", x.gain(0, 0, 9999), -29997);
        due("35 price 9998, cost 9997", x.gain(0, 9998, 9997), 3);
        due("16 it has no step all the same", x.resourceOf(0, 6), 0);
        due("21 price all the same", x.price(0), 9999);
        x = wanting(3, 40);
        x.resource(0, 3, 0, 0, false);
        due("35 just what it is worth", x.gain(0, 40, 1), 117);
        due("35 one more", x.gain(0, 41, 1), 0);
        x = new ZoneCapacity();
        x.resource(0, 500, 0, 0, false);
        due("35 nobody wants it", x.gain(0, 0, 5), 0);
    }

    // ---- all its SIZE being its one STEP
    private static void gainOfAllItsSize() {
        for (int size : new int[] {1, 2, 499, 500}) {
            ZoneCapacity x = wanting(2000, 40);
            x.resource(0, size, 0, 0, size % 2 == 0);
            x.step(0, 1, 7);
            due("35 size " + size, x.gain(0, 15, 5), 35L * size);
            due("17 its step stays", x.line(0, 0, false), 1);
        }
        // more than is wanted: units taken, at its own price
        ZoneCapacity x = wanting(4, 40);
        x.resource(0, 5, 0, 0, true);
        x.step(0, 1, 7);
        x.step(0, 1, 8);
        x.step(0, 1, 9);
        due("35 four of five", x.gain(0, 15, 5), 40);
        due("16 its steps stay", x.resourceOf(0, 6), 3);
        due("17 its rest stays", x.line(0, 3, false), 2);
        x.zone(0, 1, 1);
        x.resource(1, 5, 0, 0, false);
        due("35 by the price of its own zone", x.gain(1, 3, 1), 2);
    }

    // ---- by its price: FLOOR of its KIND, CEILING of one that MUST, neither of a FREE one
    private static void gainByFloorAndCeiling() {
        ZoneCapacity x = wanting(2, 40);
        x.resource(0, 3, 1, 0, true);
        x.set(0, 1, 20);
        due("35 the floor", x.gain(0, 10, 0), 40);
        due("35 just the floor", x.gain(0, 20, 0), 40);
        due("35 above the floor", x.gain(0, 21, 0), 42);
        x.set(1, 0, 30);
        due("35 just the ceiling", x.gain(0, 30, 0), 60);
        due("35 above the ceiling", x.gain(0, 31, 0), 60);
        due("35 far above the ceiling", x.gain(0, 9999, 0), 60);
        x.set(4, 0, 1);
        due("35 free of the floor", x.gain(0, 10, 0), 20);
        due("35 not of the ceiling", x.gain(0, 31, 0), 60);
    }

    // ---- best(): cost 0 to 9999. NONE: there are none such
    private static void bestOfNone() {
        for (int r : new int[] {-1, 3, MIN, MAX}) {
            none("36 resource " + r, -1, x -> x.best(r, 0));
        }
        for (int v : new int[] {-1, 10000, MIN, MAX}) {
            none("36 cost " + v, -1, x -> x.best(0, v));
        }
        Twins.same("36 resource 0 of none", Markets::empty, x -> x.best(0, 0), -1);
        Twins.same("36 resource 12 of 12", Markets::full, x -> x.best(12, 0), -1);
        ZoneCapacity x = wanting(1, 50);
        x.resource(0, 2, 0, 0, false);
        due("36 cost 0", x.best(0, 0), 50);
        due("36 cost 9999", x.best(0, 9999), 75);
    }

    // ---- that price of 0, 25, 50, ..
    private static void bestOfTheSteps() {
        int[][] due = {{24, 0}, {25, 25}, {26, 25}, {49, 25}, {50, 50}, {74, 50}, {75, 75}, {1234, 1225}, {2475, 2475}};
        for (int[] each : due) {
            ZoneCapacity x = wanting(1, each[0]);
            x.resource(0, 2, 0, 0, false);
            due("36 wanted at " + each[0], x.best(0, 0), each[1]);
        }
    }

    // ---- the least of those by which gain() is greatest
    private static void bestTheLeast() {
        ZoneCapacity x = wanting(2, 500);
        x.resource(0, 1, 0, 0, false);
        due("36 all the same up to what it is worth", x.best(0, 5), 0);
        due("36 at no gain", x.best(0, 500), 0);
        due("36 at a loss: the first that is not taken", x.best(0, 501), 525);
        offer(x, 0, 0, 9, 130);
        due("36 all the same up to another's", x.best(0, 5), 0);
        x = wanting(2, 500);
        x.resource(0, 3, 0, 0, false);
        offer(x, 0, 0, 9, 130);
        due("36 both of them just below another's", x.best(0, 5), 125);
        x = new ZoneCapacity();
        x.resource(0, 3, 0, 0, false);
        due("36 nothing wanted: no gain by any", x.best(0, 7), 0);
    }

    // ---- 0, .. 2500
    private static void bestTheFirstAndTheLast() {
        int[][] due = {{2499, 2475}, {2500, 2500}, {2524, 2500}, {2525, 2500}, {9999, 2500}};
        for (int[] each : due) {
            ZoneCapacity x = wanting(1, each[0]);
            x.resource(0, 2, 0, 0, false);
            due("36 wanted at " + each[0], x.best(0, 0), each[1]);
        }
        ZoneCapacity x = wanting(1, 2499);
        x.resource(0, 2, 0, 0, false);
        due("36 at a loss: the last", x.best(0, 9999), 2500);
        x = wanting(1, 2500);
        x.resource(0, 2, 0, 0, false);
        due("36 at a loss, the last is taken, too: the least loss", x.best(0, 9999), 2500);
        x = wanting(1, 0);
        x.resource(0, 2, 0, 0, false);
        due("36 the first", x.best(0, 0), 0);
        due("36 behind the first", x.best(0, 1), 25);
    }

    // ---- what would be isn't
    private static void looksChangeNothing() {
        Twins.Maker[] makers = {Markets::empty, Markets::ordinary, Markets::full};
        for (Twins.Maker maker : makers) {
            Twins.Call[] looks = {
                x -> x.without(0, 0), x -> x.without(1, 1), x -> x.pivotal(0, 0), x -> x.pivotal(5, 1),
                x -> x.wider(1, 1, false), x -> x.wider(1, 9999, true), x -> x.needs(1), x -> x.freely(0),
                x -> x.freely(1), x -> x.gain(0, 0, 0), x -> x.gain(1, 9999, 9999), x -> x.best(0, 0), x -> x.best(1, 9999),
            };
            for (int i = 0; i < looks.length; i++) {
                Twins.same("look " + i, maker, looks[i], looks[i].on(Twins.made(maker)));
            }
        }
    }
}
