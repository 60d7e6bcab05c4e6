/**
 * What is told by calls, at its edges: for each sentence of the document the last that is allowed and
 * the first that is not, on both sides, the empty and the full. A refused call changes nothing: that is
 * looked at by Twins.
 */
public final class ToldEdgesTest {
    private static final int MIN = Integer.MIN_VALUE;
    private static final int MAX = Integer.MAX_VALUE;

    private ToldEdgesTest() {
    }

    public static void main(String[] args) {
        aNewObject();
        zonesFiveMore();
        zoneOuterIsLower();
        zoneIn();
        zoneOut();
        pointsFourAtMost();
        pointOfNoZone();
        pointUnits();
        pointUnitsRise();
        pointPrice();
        pointPriceNotAbove();
        worthUpToTheFirst();
        worthBetweenDownwards();
        worthOfPointsSideBySide();
        worthBetweenEach();
        worthOfEachZone();
        worthBeyondTheLast();
        worthOfNothing();
        wantsAtAPrice();
        wantsPrice();
        floorKinds();
        floorPrices();
        ceilingPrices();
        resourcesTwelve();
        resourceZone();
        resourceSize();
        resourceKind();
        resourceOwner();
        stepsThree();
        stepUnits();
        stepUnitsTogether();
        stepPrice();
        stepPriceNotBelow();
        lineNumbers();
        lineFloor();
        lineCeiling();
        lineFloorThenCeiling();
        lineThree();
        dropOfNone();
        dropOfEmptyAndFull();
        setInAndOut();
        setFree();
        setWhat();
        keepSlots();
        keepWhat();
        backSlots();
        backOfWhatIsEmptyAndFull();
        countWhat();
        zoneOfEdges();
        resourceOfEdges();
        callsFiveHundredAndTwelve();
        Check.finish();
    }

    private static void due(String call, long got, long want) {
        Check.due(call, got, want);
    }

    private static void due(String call, boolean got, boolean want) {
        Check.due(call, got, want);
    }

    private static void refused(String name, Twins.Call call) {
        Twins.same(name + ", ordinary", Markets::ordinary, call, -1);
    }

    private static void refusedByAll(String name, Twins.Call call) {
        refused(name, call);
        Twins.same(name + ", empty", Markets::empty, call, -1);
        Twins.same(name + ", full", Markets::full, call, -1);
    }

    private static ZoneCapacity ordinary() {
        return Twins.made(Markets::ordinary);
    }

    // ---- ZONE 0, nothing offered, nothing wanted
    private static void aNewObject() {
        ZoneCapacity x = new ZoneCapacity();
        due("1 zones", x.count(0), 1);
        due("1 resources", x.count(1), 0);
        due("1 tape", x.count(3), 0);
        due("1 outer of 0", x.zoneOf(0, 0), -1);
        for (int what = 1; what < 6; what++) {
            due("1 zoneOf(0, " + what + ")", x.zoneOf(0, what), 0);
        }
        Check.dueNoZone(x, 1, 0);
        Check.dueNoResource(x, 0, 0);
        due("1 worth", x.worth(0, 1), -1);
        due("1 wants", x.wants(0, 0), 0);
        due("1 price", x.price(0), 0);
        due("1 served", x.served(0), 0);
        due("1 surplus", x.surplus(), 0);
        due("1 fault", x.fault(), 0);
        Check.dueSame("1 two new objects", Twins.look(x), Twins.look(new ZoneCapacity()));
    }

    // ---- 0 is there at first, 5 more at most, numbered as they are told. NONE: there are 6
    private static void zonesFiveMore() {
        ZoneCapacity x = new ZoneCapacity();
        for (int z = 1; z <= 5; z++) {
            due("6 zones ahead", x.count(0), z);
            due("6 its number", x.zone(0, z, 10 + z), z);
        }
        due("6 six", x.count(0), 6);
        for (int z = 1; z <= 5; z++) {
            due("6 in, as told", x.zoneOf(z, 1), z);
            due("6 out, as told", x.zoneOf(z, 2), 10 + z);
        }
        Twins.same("6 a seventh", Markets::full, y -> y.zone(0, 1, 1), -1);
        Twins.same("6 a seventh, in the last", Markets::full, y -> y.zone(5, 1, 1), -1);
        Check.dueNoZone(x, 6, 0);
    }

    // ---- each has an OUTER one (a lower number)
    private static void zoneOuterIsLower() {
        refused("6 outer its own number", x -> x.zone(3, 1, 1));
        refused("6 outer -1", x -> x.zone(-1, 1, 1));
        refused("6 outer MIN", x -> x.zone(MIN, 1, 1));
        refused("6 outer MAX", x -> x.zone(MAX, 1, 1));
        Twins.same("6 outer 1 of 1", Markets::empty, x -> x.zone(1, 1, 1), -1);
        for (int outer = 0; outer < 3; outer++) {
            ZoneCapacity x = ordinary();
            due("6 outer " + outer, x.zone(outer, 1, 1), 3);
            due("6 its outer", x.zoneOf(3, 0), outer);
        }
        ZoneCapacity x = new ZoneCapacity();
        for (int z = 1; z <= 5; z++) {
            due("6 each in the one ahead", x.zone(z - 1, 1, 1), z);
            due("6 outer", x.zoneOf(z, 0), z - 1);
        }
    }

    // ---- IN (0 to 9999)
    private static void zoneIn() {
        refused("6 in -1", x -> x.zone(0, -1, 1));
        refused("6 in 10000", x -> x.zone(0, 10000, 1));
        refused("6 in MIN", x -> x.zone(0, MIN, 1));
        refused("6 in MAX", x -> x.zone(0, MAX, 1));
        for (int in : new int[] {0, 1, 9998, 9999}) {
            ZoneCapacity x = ordinary();
            due("6 in " + in, x.zone(0, in, 1), 3);
            due("6 its in", x.zoneOf(3, 1), in);
            due("6 its out", x.zoneOf(3, 2), 1);
        }
    }

    // ---- OUT (0 to 9999)
    private static void zoneOut() {
        refused("6 out -1", x -> x.zone(0, 1, -1));
        refused("6 out 10000", x -> x.zone(0, 1, 10000));
        refused("6 out MIN", x -> x.zone(0, 1, MIN));
        refused("6 out MAX", x -> x.zone(0, 1, MAX));
        for (int out : new int[] {0, 1, 9998, 9999}) {
            ZoneCapacity x = ordinary();
            due("6 out " + out, x.zone(0, 1, out), 3);
            due("6 its out", x.zoneOf(3, 2), out);
            due("6 its in", x.zoneOf(3, 1), 1);
        }
    }

    // ---- POINTS, 4 at most. How many it has. NONE: there are 4
    private static void pointsFourAtMost() {
        ZoneCapacity x = new ZoneCapacity();
        due("7 no point", x.zoneOf(0, 3), 0);
        for (int i = 1; i <= 4; i++) {
            due("7 point " + i, x.point(0, 10 * i, 50 - i), i);
            due("7 points", x.zoneOf(0, 3), i);
            due("7 wanted", x.zoneOf(0, 4), 10 * i);
        }
        Twins.same("7 a fifth", Markets::full, y -> y.point(0, 5, 0), -1);
        Twins.same("7 a fifth of the last", Markets::full, y -> y.point(5, 2000, 0), -1);
        Twins.same("7 a fifth, of none's price", Markets::full, y -> y.point(0, 2001, 10000), -1);
    }

    // ---- NONE: it can't be (of a ZONE there is none of)
    private static void pointOfNoZone() {
        refused("7 zone 3", x -> x.point(3, 1, 1));
        refused("7 zone -1", x -> x.point(-1, 1, 1));
        refused("7 zone MIN", x -> x.point(MIN, 1, 1));
        refused("7 zone MAX", x -> x.point(MAX, 1, 1));
        Twins.same("7 zone 1 of 1", Markets::empty, x -> x.point(1, 1, 1), -1);
        Twins.same("7 zone 6 of 6", Markets::full, x -> x.point(6, 1, 1), -1);
        due("7 the last zone", ordinary().point(2, 6, 1), 2);
    }

    // ---- UNITS (1 to 2000)
    private static void pointUnits() {
        Twins.same("7 units 0", Markets::empty, x -> x.point(0, 0, 5), -1);
        Twins.same("7 units -1", Markets::empty, x -> x.point(0, -1, 5), -1);
        Twins.same("7 units MIN", Markets::empty, x -> x.point(0, MIN, 5), -1);
        Twins.same("7 units 2001", Markets::empty, x -> x.point(0, 2001, 5), -1);
        Twins.same("7 units MAX", Markets::empty, x -> x.point(0, MAX, 5), -1);
        refused("7 units 2001 of a second", x -> x.point(2, 2001, 5));
        for (int units : new int[] {1, 2, 1999, 2000}) {
            ZoneCapacity x = new ZoneCapacity();
            due("7 units " + units, x.point(0, units, 5), 1);
            due("7 wanted", x.zoneOf(0, 4), units);
            due("7 last", x.worth(0, units), 5);
            due("7 beyond", x.worth(0, units + 1), -1);
        }
        ZoneCapacity x = new ZoneCapacity();
        x.point(0, 2000, 5);
        due("7 none behind 2000", x.point(0, 2000, 5), -1);
        due("7 none behind 2000", x.point(0, 2001, 5), -1);
        due("7 one point", x.zoneOf(0, 3), 1);
    }

    // ---- UNITS rising
    private static void pointUnitsRise() {
        refused("7 as many units", x -> x.point(0, 6, 10));
        refused("7 a unit less", x -> x.point(0, 5, 10));
        refused("7 fewer than the first", x -> x.point(0, 1, 10));
        ZoneCapacity x = ordinary();
        due("7 a unit more", x.point(0, 7, 10), 3);
        due("7 wanted", x.zoneOf(0, 4), 7);
        due("7 the other zones' units don't count", x.point(1, 4, 1), 2);
    }

    // ---- PRICE (0 to 9999)
    private static void pointPrice() {
        Twins.same("7 price -1", Markets::empty, x -> x.point(0, 5, -1), -1);
        Twins.same("7 price MIN", Markets::empty, x -> x.point(0, 5, MIN), -1);
        Twins.same("7 price 10000", Markets::empty, x -> x.point(0, 5, 10000), -1);
        Twins.same("7 price MAX", Markets::empty, x -> x.point(0, 5, MAX), -1);
        refused("7 price -1 of a second", x -> x.point(2, 6, -1));
        for (int price : new int[] {0, 1, 9998, 9999}) {
            ZoneCapacity x = new ZoneCapacity();
            due("7 price " + price, x.point(0, 5, price), 1);
            due("7 its worth", x.worth(0, 5), price);
        }
    }

    // ---- PRICE not above the one ahead
    private static void pointPriceNotAbove() {
        refused("7 price above", x -> x.point(0, 7, 11));
        refused("7 price above, not the first's", x -> x.point(0, 7, 30));
        for (int price : new int[] {10, 9, 0}) {
            ZoneCapacity x = ordinary();
            due("7 price " + price + " behind 10", x.point(0, 7, price), 3);
            due("7 its worth", x.worth(0, 7), price);
        }
        ZoneCapacity x = ordinary();
        x.drop(0, false);
        due("7 none ahead any more", x.point(0, 1, 9999), 1);
        due("7 the price of another zone isn't ahead", x.point(1, 4, 50), 2);
    }

    // ---- up to UNITS of the first POINT its PRICE
    private static void worthUpToTheFirst() {
        ZoneCapacity x = new ZoneCapacity();
        x.point(0, 3, 50);
        due("18 unit 1", x.worth(0, 1), 50);
        due("18 unit 3", x.worth(0, 3), 50);
        due("18 unit 4", x.worth(0, 4), -1);
        x.point(0, 5, 40);
        due("18 unit 3 still", x.worth(0, 3), 50);
        due("18 unit 4 between", x.worth(0, 4), 45);
        due("18 unit 0", x.worth(0, 0), -1);
        due("18 unit -1", x.worth(0, -1), -1);
    }

    // ---- v less (v less w) times (u less x) by (y less x), downwards
    private static void worthBetweenDownwards() {
        ZoneCapacity x = new ZoneCapacity();
        x.point(0, 1, 10);
        x.point(0, 4, 9);
        // 1 * 1 / 3 and 1 * 2 / 3 are 0, downwards; 1 * 3 / 3 is 1
        int[] due = {10, 10, 10, 9};
        for (int u = 1; u <= 4; u++) {
            due("18 unit " + u + ", falling by 1", x.worth(0, u), due[u - 1]);
        }
        due("19 above what is between", x.wants(0, 10), 3);
        due("19 the last too", x.wants(0, 9), 4);
        x = new ZoneCapacity();
        x.point(0, 1, 9999);
        x.point(0, 2000, 0);
        // 9999 * 1 / 1999 is 5.002, 9999 * 1998 / 1999 is 9993.998
        due("18 the first between", x.worth(0, 2), 9994);
        due("18 the last between", x.worth(0, 1999), 6);
        due("18 the point itself", x.worth(0, 2000), 0);
        due("19 at the first between", x.wants(0, 9994), 2);
        due("19 above it", x.wants(0, 9995), 1);
        due("19 at the last between", x.wants(0, 6), 1999);
        due("19 below it", x.wants(0, 5), 1999);
        due("19 at 0", x.wants(0, 0), 2000);
        due("19 at 1", x.wants(0, 1), 1999);
    }

    // ---- two POINTS next to each other: no unit between, the same PRICE, the third's own
    private static void worthOfPointsSideBySide() {
        ZoneCapacity x = new ZoneCapacity();
        x.point(0, 1, 9999);
        x.point(0, 2, 0);
        due("18 all at once", x.worth(0, 2), 0);
        x.drop(0, false);
        x.point(0, 2, 8);
        x.point(0, 6, 8);
        x.point(0, 8, 4);
        x.point(0, 9, 1);
        int[] due = {8, 8, 8, 8, 8, 8, 6, 4, 1, -1};
        for (int u = 1; u <= due.length; u++) {
            due("18 unit " + u, x.worth(0, u), due[u - 1]);
        }
    }

    // ---- between each two of the four POINTS
    private static void worthBetweenEach() {
        ZoneCapacity x = new ZoneCapacity();
        x.point(0, 2, 90);
        x.point(0, 4, 70);
        x.point(0, 7, 40);
        x.point(0, 9, 20);
        int[] due = {90, 90, 80, 70, 60, 50, 40, 30, 20, -1};
        for (int u = 1; u <= due.length; u++) {
            due("18 unit " + u, x.worth(0, u), due[u - 1]);
            due("19 units worth that", x.wants(0, Math.max(0, due[u - 1])), u == 1 ? 2 : Math.min(9, u));
            due("19 units worth more", x.wants(0, due[u - 1] + 1), u < 3 ? 0 : Math.min(9, u - 1));
        }
        x.resource(0, 9, 0, 0, false);
        x.step(0, 9, 5);
        due("26 all of them", x.surplus(), 90 + 90 + 80 + 70 + 60 + 50 + 40 + 30 + 20 - 45);
    }

    // ---- of ZONE 0 and of 5 more, each its own
    private static void worthOfEachZone() {
        ZoneCapacity x = new ZoneCapacity();
        for (int z = 0; z < 6; z++) {
            due("6 zones", z == 0 || x.zone(0, 1, 1) == z, true);
            x.point(z, 2, 100 * z + 60);
            x.point(z, 4, 100 * z + 40);
            x.point(z, 6, 100 * z + 20);
            x.point(z, 8, 100 * z);
        }
        int[] due = {60, 60, 50, 40, 30, 20, 10, 0};
        for (int z = 0; z < 6; z++) {
            for (int u = 1; u <= 8; u++) {
                due("18 unit " + u + " of " + z, x.worth(z, u), 100 * z + due[u - 1]);
                due("19 units worth that", x.wants(z, 100 * z + due[u - 1]), u == 1 ? 2 : u);
            }
            due("18 beyond, of " + z, x.worth(z, 9), -1);
            due("15 wanted", x.zoneOf(z, 4), 8);
        }
    }

    // ---- beyond the last nothing: it is not wanted
    private static void worthBeyondTheLast() {
        ZoneCapacity x = new ZoneCapacity();
        x.point(0, 2, 7);
        x.point(0, 3, 0);
        due("18 the last is worth 0", x.worth(0, 3), 0);
        due("18 beyond it nothing", x.worth(0, 4), -1);
        due("18 far beyond", x.worth(0, MAX), -1);
        due("19 the last is wanted", x.wants(0, 0), 3);
        due("15 units wanted", x.zoneOf(0, 4), 3);
    }

    // ---- worth(): the u-th unit (from 1 on). NONE: nothing, there is none such
    private static void worthOfNothing() {
        refusedByAll("18 unit 0", x -> x.worth(0, 0));
        refusedByAll("18 unit MIN", x -> x.worth(0, MIN));
        refusedByAll("18 unit 2001", x -> x.worth(0, 2001));
        refused("18 zone 3", x -> x.worth(3, 1));
        refused("18 zone -1", x -> x.worth(-1, 1));
        Twins.same("18 zone 6", Markets::full, x -> x.worth(6, 1), -1);
        Twins.same("18 the last zone", Markets::full, x -> x.worth(5, 1), 45);
        Twins.same("18 no point", Markets::empty, x -> x.worth(0, 1), -1);
    }

    // ---- how many units are WORTH a price or more
    private static void wantsAtAPrice() {
        ZoneCapacity x = new ZoneCapacity();
        x.point(0, 3, 50);
        due("19 just its price", x.wants(0, 50), 3);
        due("19 one more", x.wants(0, 51), 0);
        due("19 one less", x.wants(0, 49), 3);
        due("19 at 0", x.wants(0, 0), 3);
        x.point(0, 7, 30);
        // 50 50 50 45 40 35 30
        int[][] due = {{51, 0}, {50, 3}, {46, 3}, {45, 4}, {44, 4}, {40, 5}, {31, 6}, {30, 7}, {0, 7}};
        for (int[] each : due) {
            due("19 wants(0, " + each[0] + ")", x.wants(0, each[0]), each[1]);
        }
        x.drop(0, false);
        x.point(0, 2000, 9999);
        due("19 the most at the most", x.wants(0, 9999), 2000);
    }

    // ---- a price (0 to 9999). NONE: there are none such
    private static void wantsPrice() {
        refusedByAll("19 price -1", x -> x.wants(0, -1));
        refusedByAll("19 price 10000", x -> x.wants(0, 10000));
        refusedByAll("19 price MIN", x -> x.wants(0, MIN));
        refusedByAll("19 price MAX", x -> x.wants(0, MAX));
        refused("19 zone 3", x -> x.wants(3, 0));
        refused("19 zone -1", x -> x.wants(-1, 0));
        Twins.same("19 zone 6", Markets::full, x -> x.wants(6, 0), -1);
        Twins.same("19 price 0", Markets::ordinary, x -> x.wants(0, 0), 6);
        Twins.same("19 price 9999", Markets::ordinary, x -> x.wants(0, 9999), 0);
        Twins.same("19 the last zone", Markets::full, x -> x.wants(5, 0), 4);
    }

    // ---- KINDS 0 to 3 have a FLOOR
    private static void floorKinds() {
        for (int kind = 0; kind < 4; kind++) {
            ZoneCapacity x = new ZoneCapacity();
            due("11 floor of " + kind, x.set(0, kind, 5), true);
            for (int k = 0; k < 4; k++) {
                due("14 floor of " + k, x.count(10 + k), k == kind ? 5 : 0);
            }
        }
        for (int kind : new int[] {-1, 4, MIN, MAX}) {
            Twins.no("11 floor of " + kind, Markets::ordinary, x -> x.set(0, kind, 5));
            Twins.no("11 floor of " + kind, Markets::ordinary, x -> x.set(0, kind, 0));
        }
    }

    // ---- a FLOOR (0 to 9999; 0 at first). false: it is so
    private static void floorPrices() {
        for (int kind = 0; kind < 4; kind++) {
            int k = kind;
            Twins.no("11 it is 0 at first", Markets::empty, x -> x.set(0, k, 0));
            due("14 0 at first", new ZoneCapacity().count(10 + k), 0);
        }
        for (int v : new int[] {-1, 10000, MIN, MAX}) {
            Twins.no("11 floor " + v, Markets::ordinary, x -> x.set(0, 1, v));
        }
        Twins.no("11 it is so", Markets::ordinary, x -> x.set(0, 1, 7));
        for (int v : new int[] {0, 1, 9998, 9999}) {
            ZoneCapacity x = ordinary();
            due("11 floor " + v, x.set(0, 1, v), true);
            due("14 it is " + v, x.count(11), v);
            due("11 it is so then", x.set(0, 1, v), false);
        }
    }

    // ---- a CEILING (0 to 9999; 9999 at first). false: it is so
    private static void ceilingPrices() {
        due("14 9999 at first", new ZoneCapacity().count(2), 9999);
        Twins.no("11 9999 at first", Markets::empty, x -> x.set(1, 0, 9999));
        for (int v : new int[] {-1, 10000, MIN, MAX}) {
            Twins.no("11 ceiling " + v, Markets::ordinary, x -> x.set(1, 0, v));
        }
        Twins.no("11 it is so", Markets::ordinary, x -> x.set(1, 0, 11));
        for (int v : new int[] {0, 1, 9998, 9999}) {
            ZoneCapacity x = ordinary();
            due("11 ceiling " + v, x.set(1, 0, v), true);
            due("14 it is " + v, x.count(2), v);
            due("11 it is so then", x.set(1, 0, v), false);
        }
        for (int k : new int[] {-1, 1, 9, MIN, MAX}) {
            due("11 there is one ceiling, k " + k, ordinary().set(1, k, 5), true);
        }
    }

    // ---- RESOURCES, 12 at most. Its number. NONE: there are 12
    private static void resourcesTwelve() {
        ZoneCapacity x = new ZoneCapacity();
        for (int r = 0; r < 12; r++) {
            due("8 resources ahead", x.count(1), r);
            due("8 its number", x.resource(0, r + 1, r % 4, r % 6, r % 2 == 0), r);
        }
        due("8 twelve", x.count(1), 12);
        for (int r = 0; r < 12; r++) {
            due("16 size, as told", x.resourceOf(r, 1), r + 1);
            due("16 kind, as told", x.resourceOf(r, 2), r % 4);
            due("16 owner, as told", x.resourceOf(r, 3), r % 6);
            due("16 must, as told", x.resourceOf(r, 4), 1 - r % 2);
            due("16 not free", x.resourceOf(r, 5), 0);
            due("16 no step", x.resourceOf(r, 6), 0);
        }
        due("15 all of them", x.zoneOf(0, 5), 4095);
        Twins.same("8 a thirteenth", Markets::full, y -> y.resource(0, 1, 0, 0, false), -1);
        Twins.same("8 a thirteenth that must", Markets::full, y -> y.resource(5, 500, 3, 5, true), -1);
        Check.dueNoResource(x, 12, 0);
    }

    // ---- RESOURCES: a ZONE
    private static void resourceZone() {
        for (int zone : new int[] {-1, 3, MIN, MAX}) {
            refused("8 zone " + zone, x -> x.resource(zone, 1, 0, 0, false));
        }
        Twins.same("8 zone 1 of 1", Markets::empty, x -> x.resource(1, 1, 0, 0, false), -1);
        for (int zone = 0; zone < 3; zone++) {
            ZoneCapacity x = ordinary();
            due("8 zone " + zone, x.resource(zone, 1, 0, 0, false), 3);
            due("16 its zone", x.resourceOf(3, 0), zone);
        }
    }

    // ---- SIZE 1 to 500
    private static void resourceSize() {
        for (int size : new int[] {0, -1, 501, MIN, MAX}) {
            refused("8 size " + size, x -> x.resource(0, size, 0, 0, false));
        }
        for (int size : new int[] {1, 2, 499, 500}) {
            ZoneCapacity x = ordinary();
            due("8 size " + size, x.resource(0, size, 0, 0, true), 3);
            due("16 its size", x.resourceOf(3, 1), size);
            due("17 all of it", x.line(3, 3, false), size);
        }
    }

    // ---- a KIND (0 to 3)
    private static void resourceKind() {
        for (int kind : new int[] {-1, 4, MIN, MAX}) {
            refused("8 kind " + kind, x -> x.resource(0, 1, kind, 0, false));
        }
        for (int kind = 0; kind < 4; kind++) {
            ZoneCapacity x = ordinary();
            due("8 kind " + kind, x.resource(0, 1, kind, 0, false), 3);
            due("16 its kind", x.resourceOf(3, 2), kind);
        }
    }

    // ---- an OWNER (0 to 5)
    private static void resourceOwner() {
        for (int owner : new int[] {-1, 6, 100, MIN, MAX}) {
            refused("8 owner " + owner, x -> x.resource(0, 1, 0, owner, false));
        }
        for (int owner = 0; owner < 6; owner++) {
            ZoneCapacity x = ordinary();
            due("8 owner " + owner, x.resource(0, 1, 0, owner, false), 3);
            due("16 its owner", x.resourceOf(3, 3), owner);
        }
    }

    // ---- STEPS, 3 at most (numbered from 0 on). How many it has. NONE: there are 3
    private static void stepsThree() {
        ZoneCapacity x = new ZoneCapacity();
        x.resource(0, 9, 0, 0, false);
        due("16 no step", x.resourceOf(0, 6), 0);
        due("17 no line 0", x.line(0, 0, false), -1);
        for (int i = 1; i <= 3; i++) {
            due("9 step " + i, x.step(0, i, 10 * i), i);
            due("16 steps", x.resourceOf(0, 6), i);
            due("17 units of line", x.line(0, i - 1, false), i);
            due("17 its of line", x.line(0, i - 1, true), 10 * i);
            due("17 no line behind", x.line(0, i, true), -1);
        }
        for (int r : new int[] {0, 6, 11}) {
            Twins.same("9 a fourth of " + r, Markets::full, y -> y.step(r, 1, 9999), -1);
        }
        for (int r : new int[] {-1, 3, MIN, MAX}) {
            refused("9 resource " + r, y -> y.step(r, 1, 5));
        }
        Twins.same("9 resource 0 of none", Markets::empty, y -> y.step(0, 1, 5), -1);
        Twins.same("9 resource 12 of 12", Markets::full, y -> y.step(12, 1, 5), -1);
        due("9 the last resource", ordinary().step(2, 4, 5), 1);
    }

    // ---- STEPS: units (1 to 500)
    private static void stepUnits() {
        Twins.Maker large = x -> x.resource(0, 500, 0, 0, true);
        for (int units : new int[] {0, -1, 501, MIN, MAX}) {
            Twins.same("9 units " + units, large, x -> x.step(0, units, 5), -1);
        }
        for (int units : new int[] {1, 2, 499, 500}) {
            ZoneCapacity x = Twins.made(large);
            due("9 units " + units, x.step(0, units, 5), 1);
            due("17 its units", x.line(0, 0, false), units);
        }
    }

    // ---- no more than SIZE together
    private static void stepUnitsTogether() {
        Twins.Maker ten = x -> {
            x.resource(0, 10, 0, 0, false);
            x.resource(0, 500, 0, 0, false);
        };
        Twins.same("9 11 of 10", ten, x -> x.step(0, 11, 5), -1);
        due("9 10 of 10", Twins.made(ten).step(0, 10, 5), 1);
        Twins.Maker six = x -> {
            ten.make(x);
            x.step(0, 6, 5);
        };
        Twins.same("9 6 and 5 of 10", six, x -> x.step(0, 5, 5), -1);
        due("9 6 and 4 of 10", Twins.made(six).step(0, 4, 5), 2);
        Twins.Maker nine = x -> {
            six.make(x);
            x.step(0, 3, 5);
        };
        Twins.same("9 6 and 3 and 2 of 10", nine, x -> x.step(0, 2, 5), -1);
        due("9 6 and 3 and 1 of 10", Twins.made(nine).step(0, 1, 5), 3);
        Twins.Maker all = x -> {
            six.make(x);
            x.step(0, 4, 5);
        };
        Twins.same("9 6 and 4 and 1 of 10", all, x -> x.step(0, 1, 5), -1);
        Twins.same("9 6 and 4 and 0 of 10", all, x -> x.step(0, 0, 5), -1);
        due("9 of another resource", Twins.made(all).step(1, 500, 5), 1);
    }

    // ---- STEPS: PRICE (0 to 9999)
    private static void stepPrice() {
        for (int price : new int[] {-1, 10000, MIN, MAX}) {
            refused("9 price " + price, x -> x.step(2, 1, price));
        }
        for (int price : new int[] {0, 1, 9998, 9999}) {
            ZoneCapacity x = ordinary();
            due("9 price " + price, x.step(2, 1, price), 1);
            due("17 its price", x.line(2, 0, true), price);
        }
    }

    // ---- PRICE not below the one ahead
    private static void stepPriceNotBelow() {
        refused("9 price 8 behind 9", x -> x.step(0, 1, 8));
        refused("9 price 5 behind 9, as the first", x -> x.step(0, 1, 5));
        for (int price : new int[] {9, 10, 9999}) {
            ZoneCapacity x = ordinary();
            due("9 price " + price + " behind 9", x.step(0, 1, price), 3);
            due("17 its price", x.line(0, 2, true), price);
        }
        ZoneCapacity x = ordinary();
        x.set(0, 1, 500);
        due("9 the price counts, not the floor", x.step(0, 1, 9), 3);
        x = ordinary();
        x.drop(0, true);
        due("9 none ahead any more", x.step(0, 1, 0), 1);
        x = ordinary();
        due("9 behind 12, the ceiling being 11", x.step(1, 1, 11), -1);
        due("9 behind 12", x.step(1, 1, 12), 2);
    }

    // ---- a line (0 to 3). NONE: there is none such
    private static void lineNumbers() {
        for (int r : new int[] {-1, 3, MIN, MAX}) {
            refused("17 resource " + r, x -> x.line(r, 0, false));
            refused("17 resource " + r + " its", x -> x.line(r, 0, true));
        }
        for (int k : new int[] {-1, 2, 3, 4, MIN, MAX}) {
            refused("17 line " + k, x -> x.line(0, k, false));
            refused("17 line " + k + " its", x -> x.line(0, k, true));
        }
        for (int k = 0; k < 4; k++) {
            int line = k;
            refused("17 of no steps, not must", x -> x.line(2, line, false));
            Twins.same("17 of no resource", Markets::empty, x -> x.line(0, line, false), -1);
            Twins.same("17 of all", Markets::full, x -> x.line(0, line, false), line < 3 ? 2 : 4);
            Twins.same("17 of the last, not must", Markets::full, x -> x.line(11, line, false), line < 3 ? 2 : -1);
            Twins.same("17 line 4", Markets::full, x -> x.line(0, 4, true), -1);
            Twins.same("17 resource 12", Markets::full, x -> x.line(12, line, true), -1);
        }
    }

    // ---- PRICE, but FLOOR of its KIND if that is above (not of a FREE one)
    private static void lineFloor() {
        ZoneCapacity x = new ZoneCapacity();
        x.resource(0, 9, 2, 0, false);
        x.step(0, 9, 20);
        int[][] due = {{19, 20}, {20, 20}, {21, 21}, {9999, 9999}, {0, 20}};
        for (int[] each : due) {
            x.set(0, 2, each[0]);
            due("17 floor " + each[0], x.line(0, 0, true), each[1]);
        }
        x.set(0, 1, 9999);
        x.set(0, 3, 9999);
        due("17 floor of another kind", x.line(0, 0, true), 20);
        x.set(0, 2, 21);
        x.set(4, 0, 1);
        due("17 a free one", x.line(0, 0, true), 20);
        x.set(4, 0, 0);
        due("17 not free any more", x.line(0, 0, true), 21);
    }

    // ---- then CEILING if that is below (of one that MUST)
    private static void lineCeiling() {
        ZoneCapacity x = new ZoneCapacity();
        x.resource(0, 9, 2, 0, true);
        x.step(0, 9, 20);
        x.resource(0, 9, 2, 0, false);
        x.step(1, 9, 20);
        int[][] due = {{21, 20}, {20, 20}, {19, 19}, {0, 0}, {9999, 20}};
        for (int[] each : due) {
            x.set(1, 0, each[0]);
            due("17 ceiling " + each[0], x.line(0, 0, true), each[1]);
            due("17 one that need not", x.line(1, 0, true), 20);
        }
    }

    // ---- FLOOR first, then CEILING
    private static void lineFloorThenCeiling() {
        ZoneCapacity x = new ZoneCapacity();
        x.resource(0, 9, 2, 0, true);
        x.step(0, 9, 20);
        x.set(0, 2, 30);
        int[][] due = {{31, 30}, {30, 30}, {29, 29}, {20, 20}, {19, 19}};
        for (int[] each : due) {
            x.set(1, 0, each[0]);
            due("17 floor 30, ceiling " + each[0], x.line(0, 0, true), each[1]);
        }
        x.set(4, 0, 1);
        x.set(1, 0, 29);
        due("17 free: no floor, the ceiling above", x.line(0, 0, true), 20);
        x.set(1, 0, 19);
        due("17 free: the ceiling counts", x.line(0, 0, true), 19);
    }

    // ---- line 3: what SIZE is more than its STEPS are (none if nothing), at 0
    private static void lineThree() {
        ZoneCapacity x = new ZoneCapacity();
        x.resource(0, 10, 1, 0, true);
        x.resource(0, 10, 1, 0, false);
        x.set(0, 1, 50);
        due("17 no step: all", x.line(0, 3, false), 10);
        due("17 at 0, in spite of a floor", x.line(0, 3, true), 0);
        due("17 not of one that need not", x.line(1, 3, false), -1);
        x.step(0, 9, 5);
        due("17 one unit", x.line(0, 3, false), 1);
        due("17 at 0", x.line(0, 3, true), 0);
        x.step(0, 1, 5);
        due("17 nothing", x.line(0, 3, false), -1);
        due("17 nothing its", x.line(0, 3, true), -1);
        due("24 nothing taken", x.taken(0, 3), -1);
        x.drop(0, true);
        due("17 all again", x.line(0, 3, false), 10);
        x = new ZoneCapacity();
        x.resource(0, 1, 0, 0, true);
        due("17 the least", x.line(0, 3, false), 1);
        x.step(0, 1, 0);
        due("17 none of the least", x.line(0, 3, false), -1);
    }

    // ---- drop(). NONE: there is none such
    private static void dropOfNone() {
        for (int which : new int[] {-1, 3, MIN, MAX}) {
            refused("10 points of " + which, x -> x.drop(which, false));
            refused("10 steps of " + which, x -> x.drop(which, true));
        }
        Twins.same("10 zone 1 of 1", Markets::empty, x -> x.drop(1, false), -1);
        Twins.same("10 resource 0 of none", Markets::empty, x -> x.drop(0, true), -1);
        Twins.same("10 zone 6 of 6", Markets::full, x -> x.drop(6, false), -1);
        Twins.same("10 resource 12 of 12", Markets::full, x -> x.drop(12, true), -1);
    }

    // ---- all are gone: how many there were
    private static void dropOfEmptyAndFull() {
        Twins.same("10 no points", Markets::empty, x -> x.drop(0, false), 0);
        Twins.same("10 no steps", Markets::ordinary, x -> x.drop(2, true), 0);
        for (int z = 0; z < 6; z++) {
            ZoneCapacity x = Twins.made(Markets::full);
            due("10 four points", x.drop(z, false), 4);
            due("10 none left", x.drop(z, false), 0);
            for (int other = 0; other < 6; other++) {
                due("15 points of " + other, x.zoneOf(other, 3), other == z ? 0 : 4);
            }
            due("18 nothing", x.worth(z, 1), -1);
            due("15 not wanted", x.zoneOf(z, 4), 0);
            due("16 its steps stay", x.resourceOf(z, 6), 3);
        }
        for (int r = 0; r < 12; r++) {
            ZoneCapacity x = Twins.made(Markets::full);
            due("10 three steps", x.drop(r, true), 3);
            due("10 none left", x.drop(r, true), 0);
            for (int other = 0; other < 12; other++) {
                due("16 steps of " + other, x.resourceOf(other, 6), other == r ? 0 : 3);
            }
            due("15 its points stay", x.zoneOf(r / 2, 3), 4);
            due("16 its size stays", x.resourceOf(r, 1), 10);
        }
    }

    // ---- set(): IN, OUT of ZONE k (not 0)
    private static void setInAndOut() {
        for (int what = 2; what <= 3; what++) {
            int w = what;
            for (int k : new int[] {-1, 0, 3, MIN, MAX}) {
                Twins.no("11 limit of " + k, Markets::ordinary, x -> x.set(w, k, 1));
                Twins.no("11 limit 0 of " + k, Markets::ordinary, x -> x.set(w, k, 0));
            }
            for (int v : new int[] {-1, 10000, MIN, MAX}) {
                Twins.no("11 limit " + v, Markets::ordinary, x -> x.set(w, 2, v));
            }
            Twins.no("11 it is so", Markets::ordinary, x -> x.set(w, 1, w == 2 ? 4 : 5));
            for (int v : new int[] {0, 1, 9998, 9999}) {
                for (int k = 1; k < 3; k++) {
                    ZoneCapacity x = ordinary();
                    int[] limits = {x.zoneOf(1, 1), x.zoneOf(1, 2), x.zoneOf(2, 1), x.zoneOf(2, 2)};
                    due("11 limit " + v + " of " + k, x.set(w, k, v), true);
                    due("11 it is so then", x.set(w, k, v), false);
                    limits[2 * k - 2 + w - 2] = v;
                    for (int i = 0; i < 4; i++) {
                        due("15 limit", x.zoneOf(1 + i / 2, 1 + i % 2), limits[i]);
                    }
                }
            }
            Twins.no("11 zone 6", Markets::full, x -> x.set(w, 6, 1));
            due("11 zone 5", Twins.made(Markets::full).set(w, 5, 1), true);
        }
    }

    // ---- set(): FREE of RESOURCE k (1, 0)
    private static void setFree() {
        for (int k : new int[] {-1, 3, MIN, MAX}) {
            Twins.no("11 free of " + k, Markets::ordinary, x -> x.set(4, k, 1));
            Twins.no("11 not free of " + k, Markets::ordinary, x -> x.set(4, k, 0));
        }
        for (int v : new int[] {-1, 2, 9999, MIN, MAX}) {
            Twins.no("11 free " + v, Markets::ordinary, x -> x.set(4, 0, v));
            Twins.no("11 free " + v + " of a free one", Markets::ordinary, x -> x.set(4, 1, v));
        }
        Twins.no("11 it isn't free", Markets::ordinary, x -> x.set(4, 0, 0));
        Twins.no("11 it is free", Markets::ordinary, x -> x.set(4, 1, 1));
        Twins.no("11 of no resource", Markets::empty, x -> x.set(4, 0, 1));
        Twins.no("11 of the thirteenth", Markets::full, x -> x.set(4, 12, 1));
        ZoneCapacity x = Twins.made(Markets::full);
        due("11 of the twelfth", x.set(4, 11, 1), true);
        for (int r = 0; r < 12; r++) {
            due("16 free of " + r, x.resourceOf(r, 5), r == 11 ? 1 : 0);
        }
        due("11 not free again", x.set(4, 11, 0), true);
        due("16 not free", x.resourceOf(11, 5), 0);
    }

    // ---- set(): what 0 to 4
    private static void setWhat() {
        for (int what : new int[] {-1, 5, 10, MIN, MAX}) {
            for (int k = 0; k < 3; k++) {
                int zone = k;
                Twins.no("11 what " + what, Markets::ordinary, x -> x.set(what, zone, 1));
            }
        }
    }

    // ---- keep(): slot 0, 1. false: no such slot
    private static void keepSlots() {
        for (int slot : new int[] {-1, 2, 3, MIN, MAX}) {
            Twins.no("12 slot " + slot, Markets::ordinary, x -> x.keep(slot));
            Twins.no("12 slot " + slot + ", empty", Markets::empty, x -> x.keep(slot));
        }
        for (int slot = 0; slot < 2; slot++) {
            ZoneCapacity x = new ZoneCapacity();
            due("12 slot " + slot, x.keep(slot), true);
            due("13 nothing in the other one", x.back(1 - slot), false);
            due("13 slot " + slot, x.back(slot), true);
        }
    }

    // ---- all is kept but the TAPE, its FAULT, what is kept
    private static void keepWhat() {
        for (int slot = 0; slot < 2; slot++) {
            ZoneCapacity x = ordinary();
            String ahead = Twins.look(x);
            due("12 keep", x.keep(slot), true);
            Check.dueSame("12 nothing else changes", Twins.look(x), ahead);
            due("12 the tape stays", x.count(3), 11);
            due("12 its fault stays", x.fault(), 8 * 11 + 1);
            ZoneCapacity y = ordinary();
            y.keep(slot);
            y.feed(0x20202020, 0x20202020, 0x20202020, 0x20202020, 0x20202020);
            y.back(slot);
            due("13 the tape is as it was ahead", y.count(3), 31);
            due("13 the fault too", y.fault(), 8 * 11 + 1);
            due("13 the other slot is not kept", y.back(1 - slot), true);
            due("13 the other slot as it was kept", y.count(1), slot == 0 ? 1 : 0);
            due("13 told after it", y.tell(), 1);
            due("14 ceiling", y.count(2), 44);
            due("5 fault", y.fault(), 0);
            y.back(slot);
            due("13 fault behind it", y.fault(), 0);
            due("14 ceiling as kept", y.count(2), 11);
        }
    }

    // ---- back(). false: no such slot, nothing is kept. That stays kept
    private static void backSlots() {
        for (int slot : new int[] {-1, 2, 3, MIN, MAX}) {
            Twins.no("13 slot " + slot, Markets::ordinary, x -> x.back(slot));
        }
        Twins.no("13 nothing kept in 0", Markets::empty, x -> x.back(0));
        Twins.no("13 nothing kept in 1", Markets::empty, x -> x.back(1));
        Twins.no("13 nothing kept in 0, only in 1", Markets::full, x -> x.back(0));
        ZoneCapacity x = ordinary();
        for (int round = 0; round < 3; round++) {
            due("13 slot 0", x.back(0), true);
            due("13 zones of 0", x.count(0), 2);
            due("13 resources of 0", x.count(1), 0);
            x.drop(0, false);
            x.zone(0, 9, 9);
            due("13 slot 1", x.back(1), true);
            due("13 zones of 1", x.count(0), 3);
            due("13 resources of 1", x.count(1), 1);
            due("13 steps of 1", x.resourceOf(0, 6), 1);
            x.step(0, 1, 9999);
        }
    }

    // ---- all is as was kept: from full to empty, from empty to full
    private static void backOfWhatIsEmptyAndFull() {
        ZoneCapacity x = new ZoneCapacity();
        x.keep(0);
        Markets.full(x);
        due("13 to the empty", x.back(0), true);
        due("14 zones", x.count(0), 1);
        due("14 resources", x.count(1), 0);
        Check.dueNoZone(x, 1, 3);
        Check.dueNoResource(x, 0, 0);
        due("18 nothing", x.worth(0, 1), -1);
        due("21 price", x.price(0), 0);
        due("6 a zone, the first again", x.zone(0, 2, 3), 1);
        due("15 it has no points", x.zoneOf(1, 3), 0);
        due("15 it has no resources", x.zoneOf(1, 5), 0);
        due("8 a resource, the first again", x.resource(1, 4, 0, 0, false), 0);
        due("16 it has no steps", x.resourceOf(0, 6), 0);
        due("13 to the full", x.back(1), true);
        Check.dueSame("13 full again", Twins.look(x), Twins.look(Twins.made(Markets::full)));
    }

    // ---- count(): NONE for another what
    private static void countWhat() {
        for (int what : new int[] {-1, 4, 5, 9, 14, 15, 100, MIN, MAX}) {
            refusedByAll("14 what " + what, x -> x.count(what));
        }
        int[][] due = {{0, 3}, {1, 3}, {2, 11}, {3, 11}, {10, 0}, {11, 7}, {12, 0}, {13, 0}};
        for (int[] each : due) {
            Twins.same("14 what " + each[0], Markets::ordinary, x -> x.count(each[0]), each[1]);
        }
    }

    // ---- zoneOf(): what 0 to 5. NoSuchElementException: there is none such, another what
    private static void zoneOfEdges() {
        int[][] due = {{-1, 0, 0, 2, 6, 1}, {0, 4, 5, 1, 3, 2}, {1, 3, 2, 1, 5, 4}};
        ZoneCapacity x = ordinary();
        for (int z = 0; z < 3; z++) {
            for (int what = 0; what < 6; what++) {
                due("15 zoneOf(" + z + ", " + what + ")", x.zoneOf(z, what), due[z][what]);
            }
        }
        for (int z : new int[] {-1, 3, MIN, MAX}) {
            for (int what : new int[] {-1, 0, 5, 6}) {
                noZone(z, what);
            }
        }
        for (int what : new int[] {-1, 6, 7, MIN, MAX}) {
            noZone(0, what);
            noZone(2, what);
        }
        Check.dueNoZone(new ZoneCapacity(), 1, 0);
        Check.dueNoZone(Twins.made(Markets::full), 6, 0);
        due("15 the last of six", Twins.made(Markets::full).zoneOf(5, 5), 3 << 10);
    }

    private static void noZone(int zone, int what) {
        Twins.same("15 zoneOf(" + zone + ", " + what + ")", Markets::ordinary, x -> {
            Check.dueNoZone(x, zone, what);
            return 0;
        }, 0);
    }

    // ---- resourceOf(): what 0 to 6. NoSuchElementException: there is none such, another what
    private static void resourceOfEdges() {
        int[][] due = {{0, 10, 1, 0, 0, 0, 2}, {1, 6, 2, 1, 1, 1, 1}, {2, 4, 3, 2, 0, 0, 0}};
        ZoneCapacity x = ordinary();
        for (int r = 0; r < 3; r++) {
            for (int what = 0; what < 7; what++) {
                due("16 resourceOf(" + r + ", " + what + ")", x.resourceOf(r, what), due[r][what]);
            }
        }
        for (int r : new int[] {-1, 3, MIN, MAX}) {
            for (int what : new int[] {-1, 0, 6, 7}) {
                noResource(r, what);
            }
        }
        for (int what : new int[] {-1, 7, 8, MIN, MAX}) {
            noResource(0, what);
            noResource(2, what);
        }
        Check.dueNoResource(new ZoneCapacity(), 0, 0);
        Check.dueNoResource(Twins.made(Markets::full), 12, 0);
        due("16 the last of twelve", Twins.made(Markets::full).resourceOf(11, 6), 3);
    }

    private static void noResource(int resource, int what) {
        Twins.same("16 resourceOf(" + resource + ", " + what + ")", Markets::ordinary, x -> {
            Check.dueNoResource(x, resource, what);
            return 0;
        }, 0);
    }

    // ---- an object is used for at most 512 calls
    private static void callsFiveHundredAndTwelve() {
        ZoneCapacity x = new ZoneCapacity();
        x.point(0, 1, 70);
        for (int call = 2; call <= 510; call++) {
            due("21 call " + call, x.price(0), 70);
        }
        due("7 call 511", x.point(0, 2, 60), 2);
        due("15 call 512", x.zoneOf(0, 4), 2);
    }
}
