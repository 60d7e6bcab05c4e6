/** Each promise of the document by itself: ordinary inputs, the edges it names, wrong inputs. */
public final class PromisesTest {
    private static final long NO = -1000000000000000L;
    private static final int NO_UNITS = -1000000;

    private PromisesTest() {
    }

    public static void main(String[] args) {
        aNewObject();
        feed();
        end();
        tell();
        fault();
        zone();
        point();
        resource();
        step();
        drop();
        set();
        keepAndBack();
        count();
        zoneOf();
        resourceOf();
        line();
        worth();
        wants();
        level();
        boundIn();
        boundOut();
        eachCallClears();
        partedInOrder();
        partedByNumbers();
        priceOfOuter();
        inBetween();
        paidAndCharged();
        without();
        pivotal();
        wider();
        needs();
        freely();
        gain();
        best();
        Check.finish();
    }

    private static void due(String call, long got, long want) {
        Check.due(call, got, want);
    }

    private static void due(String call, boolean got, boolean want) {
        Check.due(call, got, want);
    }

    /** Zone 1 wants more than can go in: its IN is 3. */
    private static ZoneCapacity boundMarket() {
        ZoneCapacity x = new ZoneCapacity();
        x.point(0, 4, 20);
        x.zone(0, 3, 2);
        x.point(1, 5, 30);
        x.resource(0, 10, 1, 0, false);
        x.step(0, 6, 5);
        x.step(0, 4, 8);
        x.resource(1, 4, 0, 1, false);
        x.step(1, 1, 25);
        return x;
    }

    /** Zone 1 offers more than can go out: its OUT is 2. */
    private static ZoneCapacity shutMarket() {
        ZoneCapacity x = new ZoneCapacity();
        x.point(0, 5, 40);
        x.zone(0, 0, 2);
        x.resource(1, 6, 0, 0, false);
        x.step(0, 6, 3);
        return x;
    }

    // ---- promise 1
    private static void aNewObject() {
        ZoneCapacity x = new ZoneCapacity();
        due("1 zones", x.count(0), 1);
        due("1 resources", x.count(1), 0);
        due("1 ceiling", x.count(2), 9999);
        due("1 tape", x.count(3), 0);
        for (int k = 0; k < 4; k++) {
            due("1 floor", x.count(10 + k), 0);
        }
        due("1 points", x.zoneOf(0, 3), 0);
        due("1 wanted", x.zoneOf(0, 4), 0);
        due("1 offered", x.zoneOf(0, 5), 0);
        due("1 price", x.price(0), 0);
        due("1 surplus", x.surplus(), 0);
        due("1 fault", x.fault(), 0);
        due("1 nothing kept", x.back(0) || x.back(1), false);
        due("NONE", ZoneCapacity.NONE, -1);
        due("NO_NUMBER", ZoneCapacity.NO_NUMBER, NO);
    }

    // ---- promise 2
    private static void feed() {
        ZoneCapacity x = new ZoneCapacity();
        // "ceiling 77; floor 3 5;" and then what ends the text
        due("2 feed", x.feed(0x6365696c, 0x696e6720, 0x37373b20, 0x666c6f6f, 0x72203320), 20);
        due("2 count", x.count(3), 20);
        due("2 feed behind", x.feed(0x353b2020, 0x20202020, 0x20202020, 0x20202020, 0x2020200a), 40);
        due("2 tell", x.tell(), 2);
        due("2 ceiling", x.count(2), 77);
        due("2 floor", x.count(13), 5);
        for (int i = 1; i <= 25; i++) {
            due("2 feed " + i, x.feed(i, -1, Integer.MIN_VALUE, 0, 5), 20 * i);
        }
        due("2 feed beyond 500", x.feed(1, 2, 3, 4, 5), -1);
        due("2 none came", x.count(3), 500);
        due("2 end", x.end(481), true);
        due("2 feed up to 501", x.feed(1, 2, 3, 4, 5), -1);
        due("2 none came again", x.count(3), 481);
        due("2 end", x.end(480), true);
        due("2 feed up to 500", x.feed(1, 2, 3, 4, 5), 500);
        x = new ZoneCapacity();
        // the highest byte of each number first: 'z' 'o' 'n' 'e'
        x.feed(0x7a6f6e65, 0x20302031, 0x20323b20, 0x20202020, 0x20202020);
        due("2 byte by byte", x.tell(), 1);
        due("2 in", x.zoneOf(1, 1), 1);
        due("2 out", x.zoneOf(1, 2), 2);
        x.feed(0x80202020, 0x20202020, 0x20202020, 0x20202020, 0x20202020);
        due("2 a high byte stands nowhere", x.tell(), -1);
        due("2 its fault", x.fault(), 1);
    }

    // ---- promise 3
    private static void end() {
        ZoneCapacity x = new ZoneCapacity();
        due("3 end(0) of nothing", x.end(0), true);
        due("3 end(1) of nothing", x.end(1), false);
        x.feed(0x6365696c, 0x696e6720, 0x373b6669, 0x6c6c6564, 0x20202020);
        due("3 end(21)", x.end(21), false);
        due("3 end(-1)", x.end(-1), false);
        due("3 end(MIN)", x.end(Integer.MIN_VALUE), false);
        due("3 stays", x.count(3), 20);
        due("3 end(20)", x.end(20), true);
        due("3 end(10)", x.end(10), true);
        due("3 its bytes", x.count(3), 10);
        due("3 end(11)", x.end(11), false);
        due("3 tell", x.tell(), 1);
        due("3 ceiling", x.count(2), 7);
        due("3 nothing left", x.count(3), 0);
    }

    // ---- promise 4
    private static void tell() {
        ZoneCapacity x = new ZoneCapacity();
        due("4 an empty tape", x.tell(), 0);
        due("4 no fault", x.fault(), 0);
        Check.dueTold(x, "   \n ", 0);
        Check.dueTold(x, "zone 0 5 6;zone 1 0007 8;zone0 1 2;", 3);
        due("4 zones", x.count(0), 4);
        due("4 outer", x.zoneOf(2, 0), 1);
        due("4 in", x.zoneOf(2, 1), 7);
        due("4 out", x.zoneOf(2, 2), 8);
        due("4 outer of 3", x.zoneOf(3, 0), 0);
        Check.dueTold(x, "resource 2 10 3 5;resource 1 500 0 0 must;resource 0 1 0 0 free;resource 0 1 0 0must free;", 4);
        due("4 neither", x.resourceOf(0, 4) + 2 * x.resourceOf(0, 5), 0);
        due("4 must", x.resourceOf(1, 4) + 2 * x.resourceOf(1, 5), 1);
        due("4 free", x.resourceOf(2, 4) + 2 * x.resourceOf(2, 5), 2);
        due("4 both", x.resourceOf(3, 4) + 2 * x.resourceOf(3, 5), 3);
        due("4 size", x.resourceOf(1, 1), 500);
        due("4 kind", x.resourceOf(0, 2), 3);
        due("4 owner", x.resourceOf(0, 3), 5);
        Check.dueTold(x, "offer 0 1 5 2 5 3 6 ;curve 1 1 9 2 9 3 8 2000 0;", 2);
        due("4 steps", x.resourceOf(0, 6), 3);
        due("4 points", x.zoneOf(1, 3), 4);
        Check.dueTold(x, "offer 0 10 1;curve 1 3 3;", 2);
        due("4 steps from now on", x.resourceOf(0, 6), 1);
        due("4 units", x.line(0, 0, false), 10);
        due("4 points from now on", x.zoneOf(1, 3), 1);
        due("4 wanted", x.zoneOf(1, 4), 3);
        Check.dueTold(x, "offer 0;curve 1;", 2);
        due("4 no steps", x.resourceOf(0, 6), 0);
        due("4 no points", x.zoneOf(1, 3), 0);
        Check.dueTold(x, "floor 2 9999;ceiling 0;limits 3 9999 0;", 3);
        due("4 floor", x.count(12), 9999);
        due("4 ceiling", x.count(2), 0);
        due("4 limits", x.zoneOf(3, 1), 9999);
        due("4 limits out", x.zoneOf(3, 2), 0);
        Check.dueFault(x, "ceiling 5;zone 0 1 1;offer 1 4 4;resource 0 1 1 1;floor 9 9;", 2, 56);
        due("4 ceiling stays", x.count(2), 0);
        due("4 zones stay", x.count(0), 4);
        due("4 resources stay", x.count(1), 4);
        due("4 steps stay", x.resourceOf(1, 6), 0);
        due("4 and the tape is empty", x.tell(), 0);
    }

    // ---- promise 5
    private static void fault() {
        ZoneCapacity x = new ZoneCapacity();
        due("5 ahead of any", x.fault(), 0);
        // 1: what can't stand there
        Check.dueFault(x, ";", 1, 0);
        Check.dueFault(x, " 5;", 1, 1);
        Check.dueFault(x, " zones 0 1 1;", 1, 1);
        Check.dueFault(x, "Zone 0 1 1;", 1, 0);
        Check.dueFault(x, "zone", 1, 4);
        Check.dueFault(x, "zone 0 1 1 ", 1, 11);
        Check.dueFault(x, "zone 0 1 1 1;", 1, 11);
        Check.dueFault(x, "zone 0 1 1;;", 1, 11);
        Check.dueFault(x, "zone 0,1 1;", 1, 6);
        Check.dueFault(x, "zone 0 12345 1;", 1, 7);
        Check.dueFault(x, "zone 0 00001 1;", 1, 7);
        Check.dueFault(x, "zone 0 -1 1;", 1, 7);
        Check.dueFault(x, "zone\t0 1 1;", 1, 4);
        Check.dueFault(x, "zone 0 zone 1;", 1, 7);
        Check.dueFault(x, "zone 0 1 99999999999999999999;", 1, 9);
        Check.dueFault(x, "zone 0 1 4294967297;", 1, 9);
        Check.dueFault(x, "curve 0 1;", 1, 9);
        Check.dueFault(x, "curve;", 1, 5);
        Check.dueFault(x, "curve 0 1 2 3", 1, 13);
        Check.dueFault(x, "resource 0 1 0 0 free must;", 1, 22);
        Check.dueFault(x, "resource 0 1 0 0 must must;", 1, 22);
        Check.dueFault(x, "resource 0 1 0 0 mustfree;", 1, 17);
        Check.dueFault(x, "resource 0 1 0 0 1;", 1, 17);
        Check.dueFault(x, "ceiling 1 2;", 1, 10);
        Check.dueFault(x, "ceiling 1", 1, 9);
        Check.dueFault(x, "floor 1;", 1, 7);
        Check.dueFault(x, "ceiling 1;x", 1, 10);
        // 2: out of bounds by itself
        Check.dueFault(x, "zone 1 1 1;", 2, 5);
        Check.dueFault(x, "curve 1;", 2, 6);
        Check.dueFault(x, "curve 0 0 5;", 2, 8);
        Check.dueFault(x, "curve 0 2001 5;", 2, 8);
        Check.dueFault(x, "curve 0 5 5 5 5;", 2, 12);
        Check.dueFault(x, "curve 0 5 5 4 5;", 2, 12);
        Check.dueFault(x, "curve 0 5 5 6 6;", 2, 14);
        Check.dueFault(x, "resource 1 1 0 0;", 2, 9);
        Check.dueFault(x, "resource 0 0 0 0;", 2, 11);
        Check.dueFault(x, "resource 0 501 0 0;", 2, 11);
        Check.dueFault(x, "resource 0 1 4 0;", 2, 13);
        Check.dueFault(x, "resource 0 1 0 6;", 2, 15);
        Check.dueFault(x, "offer 0;", 2, 6);
        Check.dueFault(x, "resource 0 9 0 0;offer 0 0 1;", 2, 25);
        Check.dueFault(x, "resource 0 9 0 0;offer 0 501 1;", 2, 25);
        Check.dueFault(x, "resource 0 9 0 0;offer 0 1 5 1 4;", 2, 31);
        Check.dueFault(x, "resource 0 9 0 0;offer 1 1 5;", 2, 23);
        Check.dueFault(x, "floor 4 1;", 2, 6);
        Check.dueFault(x, "limits 0 1 1;", 2, 7);
        Check.dueFault(x, "limits 1 1 1;", 2, 7);
        // the first along the text
        Check.dueFault(x, "floor 4 x;", 2, 6);
        Check.dueFault(x, "floor 1 x;floor 4 1;", 1, 8);
        // 3: too many
        Check.dueFault(x, "curve 0 1 9 2 9 3 9 4 9 5 9;", 3, 24);
        Check.dueFault(x, "curve 0 1 9 2 9 3 9 4 9 1 99;", 3, 24);
        Check.dueFault(x, "curve 0 1 9 2 9 3 9 4 9 12345", 3, 24);
        Check.dueFault(x, "curve 0 1 9 2 9 3 9 4 9 zone;", 1, 24);
        Check.dueFault(x, "resource 0 9 0 0;offer 0 1 1 1 1 1 1 99999;", 3, 37);
        Check.dueFault(x, "resource 0 9 0 0;offer 0 1 1 1 1 1 1 0;", 3, 37);
        Check.dueFault(x, "zone 0 1 1;zone 0 1 1;zone 0 1 1;zone 0 1 1;zone 0 1 1;zone 9 9 9;", 3, 55);
        Check.dueFault(x, "zone 0 1 1;zone 0 1 1;zone 0 1 1;zone 0 1 1;zone 0 1 1;zone", 3, 55);
        // 4: more than SIZE, told whole
        Check.dueFault(x, "resource 0 9 0 0;offer 0 9 1;offer 0 9 1 1 1;x", 4, 29);
        Check.dueFault(x, "resource 0 9 0 0;offer 0 10 1;", 4, 17);
        Check.dueFault(x, "resource 0 9 0 0;offer 0 10 1", 1, 29);
        Check.dueFault(x, "resource 0 9 0 0;offer 0 10 2 1 1;", 2, 32);
        due("5 nothing was told", x.count(0) + x.count(1), 1);
        Check.dueTold(x, "ceiling 1;", 1);
        due("5 0 without", x.fault(), 0);
        StringBuilder twelve = new StringBuilder();
        for (int i = 0; i < 12; i++) {
            twelve.append("resource 0 1 0 0;");
        }
        Check.dueTold(x, twelve.toString(), 12);
        Check.dueFault(x, "resource 0 1 0 0;", 3, 0);
        x.zone(5, 5, 5);
        x.set(0, 9, 9);
        due("5 of the latest tell()", x.fault(), 3);
    }

    // ---- promise 6
    private static void zone() {
        ZoneCapacity x = new ZoneCapacity();
        due("6 outer -1", x.zone(-1, 0, 0), -1);
        due("6 outer 1", x.zone(1, 0, 0), -1);
        due("6 in 10000", x.zone(0, 10000, 0), -1);
        due("6 in -1", x.zone(0, -1, 0), -1);
        due("6 out 10000", x.zone(0, 0, 10000), -1);
        due("6 out -1", x.zone(0, 0, -1), -1);
        due("6 stays", x.count(0), 1);
        due("6 edges", x.zone(0, 9999, 0), 1);
        due("6 edges", x.zone(1, 0, 9999), 2);
        due("6 outer", x.zoneOf(2, 0), 1);
        due("6 in", x.zoneOf(1, 1), 9999);
        due("6 out", x.zoneOf(2, 2), 9999);
        for (int i = 3; i < 6; i++) {
            due("6 another", x.zone(i - 1, i, i), i);
        }
        due("6 a seventh", x.zone(0, 0, 0), -1);
        due("6 six", x.count(0), 6);
    }

    // ---- promise 7
    private static void point() {
        ZoneCapacity x = new ZoneCapacity();
        due("7 no zone", x.point(1, 1, 1), -1);
        due("7 zone -1", x.point(-1, 1, 1), -1);
        due("7 units 0", x.point(0, 0, 1), -1);
        due("7 units 2001", x.point(0, 2001, 1), -1);
        due("7 price -1", x.point(0, 1, -1), -1);
        due("7 price 10000", x.point(0, 1, 10000), -1);
        due("7 first", x.point(0, 1, 9999), 1);
        due("7 units don't rise", x.point(0, 1, 5), -1);
        due("7 same price", x.point(0, 2, 9999), 2);
        due("7 third", x.point(0, 3, 50), 3);
        due("7 price above", x.point(0, 4, 51), -1);
        due("7 fourth", x.point(0, 2000, 50), 4);
        due("7 points", x.zoneOf(0, 3), 4);
        x.drop(0, false);
        for (int i = 1; i <= 4; i++) {
            due("7 again", x.point(0, i, 0), i);
        }
        due("7 a fifth", x.point(0, 5, 0), -1);
        x.zone(0, 1, 1);
        due("7 of another zone", x.point(1, 1, 7), 1);
        due("7 wanted", x.zoneOf(0, 4) + 10 * x.zoneOf(1, 4), 14);
    }

    // ---- promise 8
    private static void resource() {
        ZoneCapacity x = new ZoneCapacity();
        due("8 no zone", x.resource(1, 1, 0, 0, false), -1);
        due("8 zone -1", x.resource(-1, 1, 0, 0, false), -1);
        due("8 size 0", x.resource(0, 0, 0, 0, false), -1);
        due("8 size 501", x.resource(0, 501, 0, 0, false), -1);
        due("8 kind 4", x.resource(0, 1, 4, 0, false), -1);
        due("8 kind -1", x.resource(0, 1, -1, 0, false), -1);
        due("8 owner 6", x.resource(0, 1, 0, 6, false), -1);
        due("8 owner -1", x.resource(0, 1, 0, -1, false), -1);
        due("8 stays", x.count(1), 0);
        due("8 first", x.resource(0, 1, 0, 0, false), 0);
        due("8 second", x.resource(0, 500, 3, 5, true), 1);
        due("8 not must", x.resourceOf(0, 4), 0);
        due("8 must", x.resourceOf(1, 4), 1);
        due("8 not free", x.resourceOf(1, 5), 0);
        for (int i = 2; i < 12; i++) {
            due("8 another", x.resource(0, i, 0, 0, false), i);
        }
        due("8 a thirteenth", x.resource(0, 1, 0, 0, false), -1);
        due("8 twelve", x.count(1), 12);
        // what was gone back from leaves nothing in the next one
        x = new ZoneCapacity();
        x.keep(0);
        x.resource(0, 9, 0, 0, true);
        x.step(0, 5, 5);
        x.set(4, 0, 1);
        x.back(0);
        due("8 anew", x.resource(0, 9, 0, 0, false), 0);
        due("8 anew not free", x.resourceOf(0, 5) + x.resourceOf(0, 4) + x.resourceOf(0, 6), 0);
    }

    // ---- promise 9
    private static void step() {
        ZoneCapacity x = new ZoneCapacity();
        due("9 no resource", x.step(0, 1, 1), -1);
        x.resource(0, 10, 0, 0, false);
        due("9 resource -1", x.step(-1, 1, 1), -1);
        due("9 units 0", x.step(0, 0, 1), -1);
        due("9 units 11", x.step(0, 11, 1), -1);
        due("9 price -1", x.step(0, 1, -1), -1);
        due("9 price 10000", x.step(0, 1, 10000), -1);
        due("9 first", x.step(0, 4, 5), 1);
        due("9 price below", x.step(0, 1, 4), -1);
        due("9 same price", x.step(0, 5, 5), 2);
        due("9 two more than its size", x.step(0, 2, 6), -1);
        due("9 up to its size", x.step(0, 1, 9999), 3);
        due("9 steps", x.resourceOf(0, 6), 3);
        x.resource(0, 500, 0, 0, false);
        due("9 the largest", x.step(1, 500, 0), 1);
        x.resource(0, 500, 0, 0, false);
        for (int i = 1; i <= 3; i++) {
            due("9 another", x.step(2, 1, 7), i);
        }
        due("9 a fourth", x.step(2, 1, 7), -1);
    }

    // ---- promise 10
    private static void drop() {
        ZoneCapacity x = boundMarket();
        due("10 zone 2", x.drop(2, false), -1);
        due("10 zone -1", x.drop(-1, false), -1);
        due("10 resource 2", x.drop(2, true), -1);
        due("10 resource -1", x.drop(-1, true), -1);
        due("10 two steps", x.drop(0, true), 2);
        due("10 none left", x.drop(0, true), 0);
        due("10 steps", x.resourceOf(0, 6), 0);
        due("10 the other's stay", x.resourceOf(1, 6), 1);
        due("10 a point", x.drop(0, false), 1);
        due("10 wanted", x.zoneOf(0, 4), 0);
        due("10 the other's stay", x.zoneOf(1, 4), 5);
        due("10 any price again", x.point(0, 1, 9999), 1);
        due("10 any price again", x.step(0, 1, 0), 1);
    }

    // ---- promise 11
    private static void set() {
        ZoneCapacity x = boundMarket();
        due("11 floor", x.set(0, 3, 9999), true);
        due("11 it is so", x.set(0, 3, 9999), false);
        due("11 its floor", x.count(13), 9999);
        due("11 kind 4", x.set(0, 4, 1), false);
        due("11 kind -1", x.set(0, -1, 1), false);
        due("11 floor 10000", x.set(0, 0, 10000), false);
        due("11 floor -1", x.set(0, 0, -1), false);
        due("11 floor 0 is so", x.set(0, 0, 0), false);
        due("11 ceiling", x.set(1, 0, 0), true);
        due("11 ceiling is so", x.set(1, 0, 0), false);
        due("11 its ceiling", x.count(2), 0);
        due("11 ceiling 10000", x.set(1, 0, 10000), false);
        due("11 ceiling -1", x.set(1, 0, -1), false);
        due("11 in", x.set(2, 1, 9999), true);
        due("11 in is so", x.set(2, 1, 9999), false);
        due("11 its in", x.zoneOf(1, 1), 9999);
        due("11 its out stays", x.zoneOf(1, 2), 2);
        due("11 in 10000", x.set(2, 1, 10000), false);
        due("11 in of zone 0", x.set(2, 0, 1), false);
        due("11 in of zone 2", x.set(2, 2, 1), false);
        due("11 in of zone -1", x.set(2, -1, 1), false);
        due("11 out", x.set(3, 1, 0), true);
        due("11 out is so", x.set(3, 1, 0), false);
        due("11 its out", x.zoneOf(1, 2), 0);
        due("11 out -1", x.set(3, 1, -1), false);
        due("11 out of zone 0", x.set(3, 0, 1), false);
        due("11 out of zone 2", x.set(3, 2, 1), false);
        due("11 free", x.set(4, 1, 1), true);
        due("11 free is so", x.set(4, 1, 1), false);
        due("11 free 2", x.set(4, 1, 2), false);
        due("11 free -1", x.set(4, 1, -1), false);
        due("11 its free", x.resourceOf(1, 5), 1);
        due("11 not free", x.set(4, 1, 0), true);
        due("11 its free", x.resourceOf(1, 5), 0);
        due("11 free of resource 2", x.set(4, 2, 1), false);
        due("11 free of resource -1", x.set(4, -1, 1), false);
        due("11 what 5", x.set(5, 0, 1), false);
        due("11 what -1", x.set(-1, 0, 1), false);
    }

    // ---- promises 12 and 13
    private static void keepAndBack() {
        ZoneCapacity x = boundMarket();
        due("12 slot -1", x.keep(-1), false);
        due("12 slot 2", x.keep(2), false);
        due("13 nothing kept", x.back(0), false);
        due("13 slot -1", x.back(-1), false);
        due("13 slot 2", x.back(2), false);
        due("12 slot 0", x.keep(0), true);
        due("13 nothing kept in 1", x.back(1), false);
        long before = x.surplus();
        Check.dueFault(x, "x", 1, 0);
        x.feed(0, 0, 0, 0, 0);
        x.zone(1, 1, 1);
        x.resource(2, 1, 1, 1, true);
        x.point(2, 4, 4);
        x.set(0, 1, 77);
        x.set(1, 0, 66);
        x.set(2, 1, 55);
        x.set(3, 1, 44);
        x.set(4, 0, 1);
        x.drop(0, false);
        x.drop(0, true);
        due("12 slot 1", x.keep(1), true);
        for (int round = 0; round < 2; round++) {
            due("13 slot 0", x.back(0), true);
            due("13 zones", x.count(0), 2);
            due("13 resources", x.count(1), 2);
            due("13 floor", x.count(11), 0);
            due("13 ceiling", x.count(2), 9999);
            due("13 in", x.zoneOf(1, 1), 3);
            due("13 out", x.zoneOf(1, 2), 2);
            due("13 free", x.resourceOf(0, 5), 0);
            due("13 points", x.zoneOf(0, 3), 1);
            due("13 steps", x.resourceOf(0, 6), 2);
            due("13 surplus", x.surplus(), before);
            due("13 the tape is not kept", x.count(3), 20);
            due("13 its fault is not kept", x.fault(), 1);
            x.set(1, 0, 5);
            due("13 slot 1 stays", x.back(1), true);
            due("13 zones of 1", x.count(0), 3);
            due("13 floor of 1", x.count(11), 77);
            due("13 ceiling of 1", x.count(2), 66);
            due("13 steps of 1", x.resourceOf(0, 6), 0);
        }
        due("12 kept over", x.keep(0), true);
        x.set(1, 0, 1);
        due("13 the latest kept", x.back(0), true);
        due("13 its ceiling", x.count(2), 66);
    }

    // ---- promise 14
    private static void count() {
        ZoneCapacity x = boundMarket();
        x.set(0, 0, 4);
        x.set(0, 3, 7);
        x.set(1, 0, 8);
        x.feed(0, 0, 0, 0, 0);
        due("14 zones", x.count(0), 2);
        due("14 resources", x.count(1), 2);
        due("14 ceiling", x.count(2), 8);
        due("14 tape", x.count(3), 20);
        due("14 floor 0", x.count(10), 4);
        due("14 floor 1", x.count(11), 0);
        due("14 floor 3", x.count(13), 7);
        int[] others = {-1, 4, 9, 14, Integer.MIN_VALUE, Integer.MAX_VALUE};
        for (int what : others) {
            due("14 count(" + what + ")", x.count(what), -1);
        }
    }

    // ---- promise 15
    private static void zoneOf() {
        ZoneCapacity x = boundMarket();
        x.resource(1, 5, 0, 0, false);
        due("15 outer of 0", x.zoneOf(0, 0), -1);
        due("15 in of 0", x.zoneOf(0, 1), 0);
        due("15 out of 0", x.zoneOf(0, 2), 0);
        due("15 outer", x.zoneOf(1, 0), 0);
        due("15 in", x.zoneOf(1, 1), 3);
        due("15 out", x.zoneOf(1, 2), 2);
        x.point(1, 9, 1);
        due("15 points", x.zoneOf(1, 3), 2);
        due("15 wanted", x.zoneOf(1, 4), 9);
        due("15 resources of 0", x.zoneOf(0, 5), 1);
        due("15 resources of 1", x.zoneOf(1, 5), 6);
        Check.dueNoZone(x, 2, 0);
        Check.dueNoZone(x, -1, 0);
        Check.dueNoZone(x, 0, 6);
        Check.dueNoZone(x, 0, -1);
        Check.dueNoZone(x, Integer.MAX_VALUE, Integer.MIN_VALUE);
    }

    // ---- promise 16
    private static void resourceOf() {
        ZoneCapacity x = boundMarket();
        x.resource(1, 50, 2, 3, true);
        x.set(4, 2, 1);
        x.step(2, 1, 1);
        int[] due = {1, 50, 2, 3, 1, 1, 1};
        for (int what = 0; what < due.length; what++) {
            due("16 resourceOf(2, " + what + ")", x.resourceOf(2, what), due[what]);
        }
        int[] first = {0, 10, 1, 0, 0, 0, 2};
        for (int what = 0; what < first.length; what++) {
            due("16 resourceOf(0, " + what + ")", x.resourceOf(0, what), first[what]);
        }
        Check.dueNoResource(x, 3, 0);
        Check.dueNoResource(x, -1, 0);
        Check.dueNoResource(x, 0, 7);
        Check.dueNoResource(x, 0, -1);
        Check.dueNoResource(x, Integer.MIN_VALUE, Integer.MAX_VALUE);
    }

    // ---- promise 17
    private static void line() {
        ZoneCapacity x = new ZoneCapacity();
        x.resource(0, 10, 2, 0, true);
        x.step(0, 3, 20);
        x.step(0, 4, 50);
        due("17 units", x.line(0, 0, false), 3);
        due("17 its", x.line(0, 1, true), 50);
        due("17 no line 2", x.line(0, 2, false), -1);
        due("17 no line 2", x.line(0, 2, true), -1);
        due("17 the rest", x.line(0, 3, false), 3);
        due("17 its", x.line(0, 3, true), 0);
        x.set(0, 2, 40);
        due("17 floor above", x.line(0, 0, true), 40);
        due("17 floor below", x.line(0, 1, true), 50);
        due("17 no floor of the rest", x.line(0, 3, true), 0);
        x.set(1, 0, 45);
        due("17 ceiling above", x.line(0, 0, true), 40);
        due("17 ceiling below", x.line(0, 1, true), 45);
        x.set(1, 0, 30);
        due("17 ceiling below floor", x.line(0, 0, true), 30);
        x.set(4, 0, 1);
        due("17 free of the floor", x.line(0, 0, true), 20);
        due("17 not of the ceiling", x.line(0, 1, true), 30);
        x.step(0, 3, 60);
        due("17 line 2", x.line(0, 2, false), 3);
        due("17 nothing left", x.line(0, 3, false), -1);
        due("17 nothing left", x.line(0, 3, true), -1);
        x.resource(0, 10, 2, 0, false);
        x.step(1, 1, 35);
        due("17 no ceiling, a floor", x.line(1, 0, true), 40);
        due("17 no rest", x.line(1, 3, false), -1);
        due("17 line 4", x.line(0, 4, false), -1);
        due("17 line -1", x.line(0, -1, false), -1);
        due("17 resource 2", x.line(2, 0, false), -1);
        due("17 resource -1", x.line(-1, 0, true), -1);
        x.resource(0, 10, 0, 0, true);
        due("17 all the rest", x.line(2, 3, false), 10);
    }

    // ---- promise 18
    private static void worth() {
        ZoneCapacity x = new ZoneCapacity();
        due("18 nothing", x.worth(0, 1), -1);
        x.point(0, 3, 10);
        x.point(0, 6, 2);
        x.point(0, 7, 2);
        x.point(0, 9, 0);
        int[] due = {-1, 10, 10, 10, 8, 5, 2, 2, 1, 0, -1};
        for (int u = 0; u < due.length; u++) {
            due("18 worth(0, " + u + ")", x.worth(0, u), due[u]);
        }
        due("18 unit -1", x.worth(0, -1), -1);
        due("18 unit MIN", x.worth(0, Integer.MIN_VALUE), -1);
        due("18 unit MAX", x.worth(0, Integer.MAX_VALUE), -1);
        due("18 zone 1", x.worth(1, 1), -1);
        due("18 zone -1", x.worth(-1, 1), -1);
        x.zone(0, 0, 0);
        x.point(1, 1, 9999);
        x.point(1, 2000, 0);
        due("18 far down", x.worth(1, 1001), 9999 - 9999 * 1000 / 1999);
        due("18 last", x.worth(1, 2000), 0);
        due("18 beyond", x.worth(1, 2001), -1);
    }

    // ---- promise 19
    private static void wants() {
        ZoneCapacity x = new ZoneCapacity();
        due("19 nothing", x.wants(0, 0), 0);
        x.point(0, 3, 10);
        x.point(0, 6, 2);
        x.point(0, 7, 2);
        x.point(0, 9, 0);
        int[] due = {9, 8, 7, 5, 5, 5, 4, 4, 4, 3, 3, 0};
        for (int p = 0; p < due.length; p++) {
            due("19 wants(0, " + p + ")", x.wants(0, p), due[p]);
        }
        due("19 price 9999", x.wants(0, 9999), 0);
        due("19 price 10000", x.wants(0, 10000), -1);
        due("19 price -1", x.wants(0, -1), -1);
        due("19 zone 1", x.wants(1, 0), -1);
        due("19 zone -1", x.wants(-1, 0), -1);
        x.drop(0, false);
        x.point(0, 2000, 9999);
        due("19 the most", x.wants(0, 9999), 2000);
    }

    // ---- promise 20
    private static void level() {
        ZoneCapacity x = boundMarket();
        due("20 low of 1", x.level(1, 25, false), -5);
        due("20 high of 1", x.level(1, 25, true), -4);
        due("20 low of 1 at 30", x.level(1, 30, false), -4);
        due("20 high of 1 at 30", x.level(1, 30, true), 1);
        due("20 low, cut by in", x.level(0, 8, false), -1);
        due("20 high, cut by in", x.level(0, 8, true), 3);
        due("20 low at 20", x.level(0, 20, false), 3);
        due("20 high at 20", x.level(0, 20, true), 7);
        due("20 high at 9999", x.level(0, 9999, true), 11);
        due("20 low at 0", x.level(0, 0, false), -7);
        due("20 zone 2", x.level(2, 0, false), NO_UNITS);
        due("20 zone -1", x.level(-1, 0, true), NO_UNITS);
        due("20 price -1", x.level(0, -1, false), NO_UNITS);
        due("20 price 10000", x.level(0, 10000, true), NO_UNITS);
        x = shutMarket();
        due("20 not cut itself", x.level(1, 3, true), 6);
        due("20 cut by out", x.level(0, 3, true), -3);
        due("20 not yet", x.level(0, 3, false), -5);
        x.zone(1, 4, 4);
        x.point(2, 9, 50);
        due("20 two zones inwards", x.level(1, 10, true), 2);
        x.set(2, 2, 9);
        due("20 in shuts", x.level(0, 10, true), -5);
    }

    // ---- promises 21 to 27, IN binding
    private static void boundIn() {
        ZoneCapacity x = boundMarket();
        due("21 price(0)", x.price(0), 8);
        due("21 price(1)", x.price(1), 30);
        due("21 price(2)", x.price(2), -1);
        due("21 price(-1)", x.price(-1), -1);
        due("22 net(0)", x.net(0), 0);
        due("22 net(1)", x.net(1), -3);
        due("22 net(2)", x.net(2), NO_UNITS);
        due("22 net(-1)", x.net(-1), NO_UNITS);
        due("23 served(0)", x.served(0), 4);
        due("23 served(1)", x.served(1), 4);
        due("23 served(2)", x.served(2), -1);
        due("23 served(-1)", x.served(-1), -1);
        due("24 taken(0, 0)", x.taken(0, 0), 6);
        due("24 taken(0, 1)", x.taken(0, 1), 1);
        due("24 taken(0, 2)", x.taken(0, 2), -1);
        due("24 taken(0, 3)", x.taken(0, 3), -1);
        due("24 taken(0, 4)", x.taken(0, 4), -1);
        due("24 taken(0, -2)", x.taken(0, -2), -1);
        due("24 taken(0, NONE)", x.taken(0, -1), 7);
        due("24 taken(1, NONE)", x.taken(1, -1), 1);
        due("24 taken(2, NONE)", x.taken(2, -1), -1);
        due("24 taken(-1, 0)", x.taken(-1, 0), -1);
        due("25 binds(0)", x.binds(0), 0);
        due("25 binds(1)", x.binds(1), 1);
        due("25 binds(2)", x.binds(2), -1);
        due("25 binds(-1)", x.binds(-1), -1);
        due("26 surplus", x.surplus(), 4 * 20 + 4 * 30 - 6 * 5 - 8 - 25);
        due("27 rent(0)", x.rent(0), 0);
        due("27 rent(1)", x.rent(1), 66);
        due("27 rent(2)", x.rent(2), NO);
        due("27 rent(-1)", x.rent(-1), NO);
        x.resource(0, 5, 0, 0, false);
        due("24 of no lines", x.taken(2, -1), 0);
    }

    // ---- promises 21 to 27, OUT binding
    private static void boundOut() {
        ZoneCapacity x = shutMarket();
        due("21 price(0)", x.price(0), 40);
        due("21 price(1)", x.price(1), 3);
        due("22 net(1)", x.net(1), 2);
        due("23 served(0)", x.served(0), 2);
        due("24 taken(0, 0)", x.taken(0, 0), 2);
        due("25 binds(1)", x.binds(1), 2);
        due("26 surplus", x.surplus(), 74);
        due("27 rent(1)", x.rent(1), 74);
        x.set(3, 1, 5);
        // all that is wanted goes out: the price is 3 on both sides, and OUT does not bind
        due("21 price(0), wider", x.price(0), 3);
        due("22 net(1), wider", x.net(1), 5);
        due("25 binds(1), wider", x.binds(1), 0);
        due("27 rent(1), wider", x.rent(1), 0);
        due("26 surplus, wider", x.surplus(), 185);
    }

    // ---- promises 21 to 29: each is answered as it is cleared now, whatever was asked before
    private static void eachCallClears() {
        for (int round = 0; round < 2; round++) {
            ZoneCapacity[] x = new ZoneCapacity[13];
            for (int i = 0; i < x.length; i++) {
                x[i] = boundMarket();
                if (round == 1) {
                    x[i].set(2, 1, 9);
                    due("21 price(1), wide", x[i].price(1), 8);
                    x[i].set(2, 1, 3);
                }
            }
            due("21 at once", x[0].price(1), 30);
            due("22 at once", x[1].net(1), -3);
            due("23 at once", x[2].served(1), 4);
            due("24 at once", x[3].taken(0, 1), 1);
            due("24 at once, all", x[4].taken(0, -1), 7);
            due("25 at once", x[5].binds(1), 1);
            due("26 at once", x[6].surplus(), 137);
            due("27 at once", x[7].rent(1), 66);
            due("28 at once", x[8].paid(0), 56);
            due("28 at once, of an owner", x[9].paid(100), 56);
            due("29 at once", x[10].charged(1), 120);
            due("32 at once", x[11].wider(1, 1, false), 22);
            x[12].set(1, 0, 8);
            due("31 at once", x[12].pivotal(0, 0), 1);
        }
    }

    // ---- promises 22 to 24: own lines, then zones, then units
    private static void partedInOrder() {
        ZoneCapacity x = new ZoneCapacity();
        x.point(0, 10, 9);
        x.zone(0, 9, 9);
        x.zone(0, 9, 9);
        x.resource(0, 3, 0, 0, false);
        x.step(0, 3, 9);
        x.resource(0, 4, 0, 0, false);
        x.step(1, 2, 9);
        x.step(1, 2, 9);
        x.resource(1, 4, 0, 0, false);
        x.step(2, 4, 9);
        x.resource(2, 4, 0, 0, false);
        x.step(3, 4, 9);
        due("21 price", x.price(0), 9);
        due("24 own lines first", x.taken(0, -1), 3);
        due("24 own lines first", x.taken(1, 0), 2);
        due("24 own lines first", x.taken(1, 1), 2);
        due("22 then the first zone", x.net(1), 3);
        due("22 and the next", x.net(2), 0);
        due("24 its line", x.taken(2, 0), 3);
        due("24 the next one's line", x.taken(3, 0), 0);
        due("23 all is served", x.served(0), 10);
        due("21 price of 1", x.price(1), 9);
        due("21 price of 2", x.price(2), 9);
        due("26 nothing is won", x.surplus(), 0);
        x.drop(1, true);
        x.set(3, 1, 2);
        due("24 own line", x.taken(0, -1), 3);
        due("22 up to its out", x.net(1), 2);
        due("22 the rest of the next", x.net(2), 4);
        due("23 what is left is not served", x.served(0), 9);
        due("25 out at the same price", x.binds(1), 0);
    }

    // ---- promise 24: by numbers, line 3 last
    private static void partedByNumbers() {
        ZoneCapacity x = new ZoneCapacity();
        x.point(0, 3, 5);
        x.resource(0, 5, 0, 0, true);
        x.step(0, 2, 0);
        x.resource(0, 5, 0, 0, false);
        x.step(1, 5, 0);
        due("21 price 0", x.price(0), 0);
        due("24 line 0", x.taken(0, 0), 2);
        due("24 line 3", x.taken(0, 3), 1);
        due("24 both", x.taken(0, -1), 3);
        due("24 the next resource", x.taken(1, 0), 0);
        due("24 line 1", x.taken(0, 1), -1);
        x.drop(0, false);
        x.point(0, 9, 5);
        due("24 line 3, more wanted", x.taken(0, 3), 3);
        due("24 the next resource, more wanted", x.taken(1, 0), 4);
        due("21 price 0 still", x.price(0), 0);
    }

    // ---- promise 21: the price of the outer zone, if it can be
    private static void priceOfOuter() {
        ZoneCapacity x = new ZoneCapacity();
        x.point(0, 1, 70);
        x.zone(0, 0, 0);
        x.zone(1, 0, 0);
        due("21 alone", x.price(0), 70);
        due("21 nothing there: as outside", x.price(1), 70);
        due("21 and further in", x.price(2), 70);
        x.point(1, 2, 90);
        x.resource(1, 2, 0, 0, false);
        x.step(0, 2, 60);
        due("21 within low and high", x.price(1), 70);
        x.set(0, 0, 71);
        due("21 above", x.price(1), 71);
        due("21 further in goes with it", x.price(2), 71);
        due("25 shut, above", x.binds(1), 1);
        x.set(0, 0, 0);
        x.drop(1, false);
        x.point(1, 2, 65);
        due("21 below, the least", x.price(1), 60);
        due("25 shut, below", x.binds(1), 2);
        due("27 rent of nothing", x.rent(1), 0);
    }

    // ---- promises 21 to 26 with units between two points
    private static void inBetween() {
        ZoneCapacity x = new ZoneCapacity();
        // worth 10 10 10 8 5 2
        x.point(0, 3, 10);
        x.point(0, 6, 2);
        x.resource(0, 5, 0, 0, false);
        x.step(0, 4, 1);
        x.step(0, 1, 6);
        due("21 the worth of a unit", x.price(0), 5);
        due("23 served", x.served(0), 4);
        due("26 surplus", x.surplus(), 38 - 4);
        x.drop(0, true);
        x.step(0, 4, 1);
        x.step(0, 1, 4);
        due("21 the least price", x.price(0), 4);
        due("23 served", x.served(0), 5);
        due("26 surplus", x.surplus(), 43 - 8);
        x.drop(0, true);
        x.step(0, 2, 1);
        due("21 of three alike", x.price(0), 10);
        due("23 two of three", x.served(0), 2);
        due("26 surplus of two", x.surplus(), 18);
    }

    // ---- promises 28 and 29
    private static void paidAndCharged() {
        ZoneCapacity x = boundMarket();
        due("28 paid(0)", x.paid(0), 56);
        due("28 paid(1)", x.paid(1), 30);
        due("28 paid(2)", x.paid(2), NO);
        due("28 paid(-1)", x.paid(-1), NO);
        due("28 owner 0", x.paid(100), 56);
        due("28 owner 1", x.paid(101), 30);
        due("28 owner 5", x.paid(105), 0);
        due("28 owner 6", x.paid(106), NO);
        due("28 owner -1", x.paid(99), NO);
        due("29 charged(0)", x.charged(0), 32);
        due("29 charged(1)", x.charged(1), 120);
        due("29 charged(2)", x.charged(2), NO);
        due("29 charged(-1)", x.charged(-1), NO);
        x.resource(1, 1, 0, 0, false);
        x.step(2, 1, 0);
        // one unit more in zone 1: its line of 25 is taken, and NET stays
        due("28 paid(2)", x.paid(2), x.price(1));
        due("28 owner 0 in two zones", x.paid(100), 56 + x.price(1));
        due("21 price(1)", x.price(1), 25);
    }

    // ---- promise 30
    private static void without() {
        ZoneCapacity x = boundMarket();
        due("30 without(0, 0)", x.without(0, 0), 30);
        due("30 without(0, 1)", x.without(0, 1), 30);
        due("30 without(1, 0)", x.without(1, 0), 8);
        due("30 without(1, 1)", x.without(1, 1), 30);
        due("30 resource 2", x.without(2, 0), -1);
        due("30 resource -1", x.without(-1, 0), -1);
        due("30 zone 2", x.without(0, 2), -1);
        due("30 zone -1", x.without(0, -1), -1);
        due("30 all stays", x.price(0), 8);
        // one that must is not there with its rest either
        x = new ZoneCapacity();
        x.point(0, 2, 6);
        x.resource(0, 5, 0, 0, true);
        due("30 the rest is enough", x.price(0), 0);
        due("30 without the rest", x.without(0, 0), 6);
    }

    // ---- promise 31
    private static void pivotal() {
        ZoneCapacity x = boundMarket();
        due("31 no ceiling", x.pivotal(0, 0), 0);
        x.set(1, 0, 29);
        due("31 above", x.pivotal(0, 0), 1);
        due("31 it is above already", x.pivotal(0, 1), 0);
        due("31 another owner", x.pivotal(1, 0), 0);
        due("31 an owner of nothing", x.pivotal(5, 0), 0);
        x.set(1, 0, 30);
        due("31 just the ceiling", x.pivotal(0, 0), 0);
        x.set(1, 0, 8);
        due("31 the ceiling as it is", x.pivotal(0, 0), 1);
        x.set(1, 0, 7);
        due("31 above as it is", x.pivotal(0, 0), 0);
        due("31 owner 6", x.pivotal(6, 0), -1);
        due("31 owner -1", x.pivotal(-1, 0), -1);
        due("31 zone 2", x.pivotal(0, 2), -1);
        due("31 zone -1", x.pivotal(0, -1), -1);
        // none of its resources alone, but all together
        x = new ZoneCapacity();
        x.point(0, 2, 50);
        for (int i = 0; i < 2; i++) {
            x.resource(0, 2, 0, 3, false);
            x.step(i, 2, 10);
        }
        x.set(1, 0, 20);
        due("31 one is enough", x.without(0, 0), 10);
        due("31 both are away", x.pivotal(3, 0), 1);
    }

    // ---- promise 32
    private static void wider() {
        ZoneCapacity x = boundMarket();
        due("32 in by 1", x.wider(1, 1, false), 22);
        due("32 in by 2", x.wider(1, 2, false), 39);
        due("32 in by 3", x.wider(1, 3, false), 39);
        due("32 in by 9999", x.wider(1, 9999, false), 39);
        due("32 out by 1", x.wider(1, 1, true), 0);
        due("32 by 0", x.wider(1, 0, false), NO);
        due("32 by -1", x.wider(1, -1, true), NO);
        due("32 by 10000", x.wider(1, 10000, false), NO);
        due("32 zone 0", x.wider(0, 1, false), NO);
        due("32 zone 2", x.wider(2, 1, false), NO);
        due("32 zone -1", x.wider(-1, 1, true), NO);
        due("32 all stays", x.zoneOf(1, 1), 3);
        x = shutMarket();
        due("32 out by 1", x.wider(1, 1, true), 37);
        due("32 out by 9999", x.wider(1, 9999, true), 111);
        due("32 in by 5", x.wider(1, 5, false), 0);
    }

    // ---- promise 33
    private static void needs() {
        ZoneCapacity x = boundMarket();
        due("33 needs(1)", x.needs(1), 5);
        x.set(2, 1, 9);
        due("33 whatever its in is", x.needs(1), 5);
        due("33 its in stays", x.zoneOf(1, 1), 9);
        due("33 zone 0", x.needs(0), -1);
        due("33 zone 2", x.needs(2), -1);
        due("33 zone -1", x.needs(-1), -1);
        due("33 none is needed", shutMarket().needs(1), 0);
    }

    // ---- promise 34
    private static void freely() {
        ZoneCapacity x = boundMarket();
        due("34 no floors", x.freely(0), 8);
        x.set(0, 1, 12);
        due("34 with one", x.price(0), 12);
        due("34 without it", x.freely(0), 8);
        x.set(0, 0, 35);
        due("34 with two", x.price(1), 30);
        due("34 without them", x.freely(1), 30);
        due("34 floors stay", x.count(10) + x.count(11), 47);
        due("34 zone 2", x.freely(2), -1);
        due("34 zone -1", x.freely(-1), -1);
        // the ceiling stays where it is
        x = new ZoneCapacity();
        x.point(0, 2, 50);
        x.resource(0, 3, 0, 0, true);
        x.step(0, 3, 40);
        x.set(1, 0, 15);
        x.set(0, 0, 30);
        due("34 the ceiling", x.freely(0), 15);
    }

    // ---- promise 35
    private static void gain() {
        ZoneCapacity x = boundMarket();
        due("35 gain at 10", x.gain(0, 10, 3), 49);
        due("35 gain at 0", x.gain(0, 0, 3), -21);
        due("35 gain at 25", x.gain(0, 25, 3), 66);
        due("35 gain at 50", x.gain(0, 50, 3), 0);
        due("35 below cost", x.gain(0, 10, 9999), -7L * 9989);
        x.set(0, 1, 12);
        due("35 the floor counts", x.gain(0, 10, 3), 63);
        due("35 its steps stay", x.resourceOf(0, 6), 2);
        due("35 resource 2", x.gain(2, 0, 0), NO);
        due("35 resource -1", x.gain(-1, 0, 0), NO);
        due("35 price -1", x.gain(0, -1, 0), NO);
        due("35 price 10000", x.gain(0, 10000, 0), NO);
        due("35 cost -1", x.gain(0, 0, -1), NO);
        due("35 cost 10000", x.gain(0, 0, 10000), NO);
        due("35 the edges", x.gain(0, 9999, 9999), 0);
        // one that must offers all its size at the ceiling at most, and no rest
        x = new ZoneCapacity();
        x.point(0, 6, 50);
        x.resource(0, 4, 0, 0, true);
        x.set(1, 0, 30);
        due("35 one that must", x.gain(0, 40, 0), 200);
        due("35 it is short", x.price(0), 50);
        x.resource(0, 9, 0, 0, false);
        x.step(1, 9, 45);
        due("35 under another's price", x.gain(0, 40, 1), 4 * 44);
    }

    // ---- promise 36
    private static void best() {
        ZoneCapacity x = boundMarket();
        due("36 best(0, 3)", x.best(0, 3), 25);
        due("36 nothing is best, the least of it", x.best(0, 30), 50);
        due("36 its steps stay", x.line(0, 1, false), 4);
        due("36 resource 2", x.best(2, 0), -1);
        due("36 resource -1", x.best(-1, 0), -1);
        due("36 cost -1", x.best(0, -1), -1);
        due("36 cost 10000", x.best(0, 10000), -1);
        due("36 cost 9999", x.best(0, 9999), 50);
        x = new ZoneCapacity();
        x.point(0, 1, 9999);
        x.resource(0, 2, 0, 0, false);
        due("36 the last", x.best(0, 0), 2500);
        due("36 the first of the same", x.best(0, 9999), 2500);
        x.resource(0, 2, 0, 0, false);
        x.step(1, 2, 60);
        due("36 below another's", x.best(0, 0), 50);
        x.step(0, 1, 5);
        x.set(1, 0, 0);
        due("36 no ceiling for one that need not", x.best(0, 0), 50);
        x.drop(0, false);
        due("36 nobody wants it", x.best(0, 5), 0);
    }
}
