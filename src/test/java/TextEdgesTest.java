/**
 * The tape and its texts at their edges: for each sentence of the document the last that is allowed and
 * the first that is not. The sign | in a text that is at fault marks the place that is due.
 */
public final class TextEdgesTest {
    private static final int MIN = Integer.MIN_VALUE;
    private static final int MAX = Integer.MAX_VALUE;
    /** Twenty blanks. */
    private static final int BLANKS = 0x20202020;

    private TextEdgesTest() {
    }

    public static void main(String[] args) {
        feedTwentyBytes();
        feedUpToFiveHundred();
        feedMoreThanFiveHundred();
        endOfBytes();
        endOfNothing();
        endOfAll();
        tellNothing();
        tellFiveHundredBytes();
        tellEmptiesTheTape();
        tellWithAFault();
        faultOfTheLatest();
        words();
        ints();
        blanks();
        otherSigns();
        semicolons();
        theEnd();
        aStatementInAStatement();
        zoneStatement();
        curveStatement();
        curveUnitsRise();
        curvePriceNotAbove();
        curveFromNowOn();
        resourceStatement();
        resourceMustFree();
        offerStatement();
        offerPriceNotBelow();
        offerFromNowOn();
        floorStatement();
        ceilingStatement();
        limitsStatement();
        oneByOne();
        tooManyZones();
        tooManyResources();
        tooManyPoints();
        tooManySteps();
        moreThanSize();
        moreThanSizeToldWhole();
        theFirstAlongTheText();
        ofOnePlaceTheLeast();
        Check.finish();
    }

    private static void due(String call, long got, long want) {
        Check.due(call, got, want);
    }

    private static void due(String call, boolean got, boolean want) {
        Check.due(call, got, want);
    }

    private static ZoneCapacity ordinary() {
        ZoneCapacity x = Twins.made(Markets::ordinary);
        x.end(0);
        return x;
    }

    /** The ordinary market behind a text that has no fault. */
    private static ZoneCapacity told(String text, int statements) {
        ZoneCapacity x = ordinary();
        Check.dueTold(x, text, statements);
        return x;
    }

    /** The ordinary market with a text that has a fault: nothing else is changed. */
    private static void fault(int kind, String marked) {
        Twins.faulty(Markets::ordinary, kind, marked);
    }

    private static int feed20(ZoneCapacity x) {
        return x.feed(BLANKS, BLANKS, BLANKS, BLANKS, BLANKS);
    }

    private static ZoneCapacity fed(int times) {
        ZoneCapacity x = new ZoneCapacity();
        for (int i = 1; i <= times; i++) {
            due("2 feed " + i, feed20(x), 20 * i);
        }
        return x;
    }

    // ---- twenty bytes come behind the TAPE, of each number the highest first: how many it has
    private static void feedTwentyBytes() {
        // each number begins and ends a word or an INT: a byte out of its order would be a fault
        ZoneCapacity x = new ZoneCapacity();
        due("2 the first twenty", x.feed(0x7a6f6e65, 0x30203132, 0x33342035, 0x3637383b, 0x6c696d69), 20);
        due("2 the next twenty", x.feed(0x74732031, 0x20392038, 0x3b666c6f, 0x6f722033, 0x2037373b), 40);
        due("4 zone 0 1234 5678; limits 1 9 8; floor 3 77;", x.tell(), 3);
        due("15 in", x.zoneOf(1, 1), 9);
        due("15 out", x.zoneOf(1, 2), 8);
        due("14 floor", x.count(13), 77);
        // bytes of 128 and more are bytes like others: what can't stand there, at its place
        for (int i = 0; i < 20; i++) {
            int[] five = {BLANKS, BLANKS, BLANKS, BLANKS, BLANKS};
            five[i / 4] ^= (255 ^ 32) << 24 - 8 * (i % 4);
            x = new ZoneCapacity();
            due("2 feed with byte " + i, x.feed(five[0], five[1], five[2], five[3], five[4]), 20);
            due("4 byte " + i, x.tell(), -1);
            due("5 at byte " + i, x.fault(), 1 + 8 * i);
        }
        x = new ZoneCapacity();
        due("2 feed of any numbers", x.feed(MIN, -1, 0, 1, MAX), 20);
        due("14 bytes", x.count(3), 20);
        due("4 the byte 128", x.tell(), -1);
        due("5 the byte 128", x.fault(), 1);
    }

    // ---- 500 bytes may be there: 25 times twenty, or behind what end() left
    private static void feedUpToFiveHundred() {
        ZoneCapacity x = fed(25);
        due("14 bytes", x.count(3), 500);
        due("4 500 blanks", x.tell(), 0);
        x = fed(25);
        due("3 end", x.end(480), true);
        due("2 480 and 20", feed20(x), 500);
        x = new ZoneCapacity();
        feed20(x);
        x.end(1);
        for (int i = 1; i <= 24; i++) {
            due("2 behind one byte", feed20(x), 1 + 20 * i);
        }
        due("14 bytes", x.count(3), 481);
        due("2 481 and 20", feed20(x), -1);
        due("14 bytes still", x.count(3), 481);
    }

    // ---- NONE, and none come: more than 500
    private static void feedMoreThanFiveHundred() {
        Twins.same("2 500 and 20", x -> {
            for (int i = 0; i < 25; i++) {
                x.feed(0x63757276, 0x65203020, 0x3920313b, BLANKS, BLANKS);
            }
        }, x -> x.feed(MAX, MAX, MAX, MAX, MAX), -1);
        Twins.same("2 481 and 20", x -> {
            for (int i = 0; i < 25; i++) {
                x.feed(0x63757276, 0x65203020, 0x3920313b, BLANKS, BLANKS);
            }
            x.end(481);
        }, TextEdgesTest::feed20, -1);
    }

    // ---- end(): the TAPE has its first n bytes alone: true. false: it has not so many, n is below 0
    private static void endOfBytes() {
        for (int n : new int[] {-1, 12, 13, 500, 501, MIN, MAX}) {
            Twins.no("3 end(" + n + ") of 11", Markets::ordinary, x -> x.end(n));
        }
        for (int n = 0; n <= 11; n++) {
            ZoneCapacity x = Twins.made(Markets::ordinary);
            due("3 end(" + n + ") of 11", x.end(n), true);
            due("14 bytes", x.count(3), n);
            due("3 end(" + (n + 1) + ") of " + n, x.end(n + 1), false);
        }
        // "ceiling 44;" cut everywhere: the bytes that are left are its first ones
        int[] faults = {0, 1, 1, 1, 1, 1, 1, 8 * 7 + 1, 8 * 8 + 1, 8 * 9 + 1, 8 * 10 + 1, 0};
        for (int n = 0; n <= 11; n++) {
            ZoneCapacity x = Twins.made(Markets::ordinary);
            x.end(n);
            due("4 of " + n + " bytes", x.tell(), n == 0 ? 0 : n == 11 ? 1 : -1);
            due("5 of " + n + " bytes", x.fault(), faults[n]);
            due("14 ceiling", x.count(2), n == 11 ? 44 : 11);
        }
    }

    // ---- end() of the empty tape
    private static void endOfNothing() {
        due("3 end(0) of nothing", new ZoneCapacity().end(0), true);
        for (int n : new int[] {-1, 1, 20, MIN, MAX}) {
            Twins.no("3 end(" + n + ") of nothing", Markets::empty, x -> x.end(n));
        }
    }

    // ---- end() of one of 500 bytes
    private static void endOfAll() {
        ZoneCapacity x = fed(25);
        due("3 end(501)", x.end(501), false);
        due("14 bytes", x.count(3), 500);
        due("3 end(500)", x.end(500), true);
        due("14 bytes", x.count(3), 500);
        due("3 end(499)", x.end(499), true);
        due("14 bytes", x.count(3), 499);
        due("3 end(500) of 499", x.end(500), false);
    }

    // ---- { STATEMENT ; }: none is a text, too
    private static void tellNothing() {
        for (String text : new String[] {"", " ", "\n", " \n \n"}) {
            ZoneCapacity x = told(text, 0);
            ZoneCapacity y = ordinary();
            Check.dueSame("4 nothing told", Twins.look(x), Twins.look(y));
        }
        ZoneCapacity x = new ZoneCapacity();
        due("4 of a new object", x.tell(), 0);
        due("5 of a new object", x.fault(), 0);
    }

    // ---- TEXTS, at most 500 bytes
    private static void tellFiveHundredBytes() {
        told("ceiling 1;".repeat(50), 50);
        told("ceiling 1;".repeat(49) + "ceiling 2;", 50);
        due("14 the last one counts", told("ceiling 1;".repeat(49) + "floor 2 3;", 50).count(12), 3);
        due("4 curves alone", told("curve 0;".repeat(62) + "    ", 62).zoneOf(0, 3), 0);
        fault(1, "ceiling 1;".repeat(49) + "ceiling 22|");
        fault(1, "ceiling 1;".repeat(49) + "ceiling 2|x");
        fault(2, "ceiling 1;".repeat(49) + "floor |4 1;");
        fault(1, " ".repeat(499) + "|x");
        told(" ".repeat(500), 0);
        told(" ".repeat(490) + "ceiling 7;", 1);
    }

    // ---- the TAPE (empty then)
    private static void tellEmptiesTheTape() {
        ZoneCapacity x = ordinary();
        Check.put(x, "ceiling 5;");
        due("4 told", x.tell(), 1);
        due("14 empty", x.count(3), 0);
        due("4 told again", x.tell(), 0);
        due("2 the first twenty again", feed20(x), 20);
        x = ordinary();
        Check.put(x, "ceiling 5");
        due("4 a fault", x.tell(), -1);
        due("14 empty, too", x.count(3), 0);
        due("4 nothing is there", x.tell(), 0);
        due("5 without a fault then", x.fault(), 0);
        x = fed(25);
        x.tell();
        due("2 500 are gone", feed20(x), 20);
    }

    // ---- NONE: a FAULT (all else stays as it was)
    private static void tellWithAFault() {
        String all = "zone 0 1 1; curve 0 1 1; curve 2; resource 0 1 0 0; offer 3 1 1; offer 0; offer 1 6 6;"
            + "floor 0 9; floor 1 0; ceiling 9; limits 1 0 0; limits 2 9 9;";
        told(all, 12);
        fault(1, all.substring(0, all.length() - 1) + "|");
        fault(1, all + "|x");
        fault(2, all + "floor |4 1;");
        fault(2, all + "offer |4;");
        fault(4, all + "|offer 3 2 1;");
    }

    // ---- FAULT of the latest tell(); 0 without, and ahead of any
    private static void faultOfTheLatest() {
        ZoneCapacity x = new ZoneCapacity();
        due("5 ahead of any", x.fault(), 0);
        feed20(x);
        due("5 ahead of any, fed", x.fault(), 0);
        x.end(0);
        Check.dueFault(x, "x", 1, 0);
        Check.dueFault(x, "  floor 9 9;", 2, 8);
        Check.put(x, "ceiling 5;");
        due("5 not told yet", x.fault(), 8 * 8 + 2);
        x.zone(0, 1, 1);
        x.zone(9, 1, 1);
        due("5 other calls leave it", x.fault(), 8 * 8 + 2);
        due("4 told", x.tell(), 1);
        due("5 0 without", x.fault(), 0);
        Check.dueFault(x, "x", 1, 0);
        due("4 nothing told", x.tell(), 0);
        due("5 0 without, of nothing", x.fault(), 0);
    }

    // ---- words (letters a to z, as many as stand there)
    private static void words() {
        told("zone 0 1 1;", 1);
        told("resource 0 1 0 0 must free;", 1);
        for (String word : new String[] {"zon", "zones", "zonee", "azone", "z", "a", "curv", "curves", "resourc",
            "resources", "offe", "offers", "floo", "floors", "ceilin", "ceilings", "limit", "limitss", "must", "free"}) {
            fault(1, "|" + word + " 0 1 1;");
        }
        for (char sign : new char[] {'`', '{', '@', '[', 'A', 'Z'}) {
            fault(1, "|" + sign + "one 0 1 1;");
            fault(1, "|zon" + sign + " 0 1 1;");
            fault(1, "zone|" + sign + " 0 1 1;");
            fault(1, "zone 0 1 1|" + sign + ";");
        }
        String[] words = {"zone 0 1 1", "curve 0", "resource 0 1 0 0", "offer 0", "floor 0 1", "ceiling 1", "limits 1 1 1"};
        for (String statement : words) {
            told(statement + ";", 1);
            int length = statement.indexOf(' ');
            for (int i = 0; i <= length; i++) {
                // another letter in each place, one more in each place, among them the first and the last
                for (char letter : new char[] {'a', 'z', 'q'}) {
                    if (statement.charAt(i) != letter && i < length) {
                        fault(1, "|" + statement.substring(0, i) + letter + statement.substring(i + 1) + ";");
                    }
                    fault(1, "|" + statement.substring(0, i) + letter + statement.substring(i) + ";");
                }
            }
        }
        // the words are those letters and no others, up to the last of them
        fault(1, "|zonezone 0 1 1;");
        fault(1, "resource 0 1 0 0 |mustfree;");
        fault(1, "resource 0 1 0 0 |mus;");
        fault(1, "resource 0 1 0 0 |mustt;");
        fault(1, "resource 0 1 0 0 |fre;");
        fault(1, "resource 0 1 0 0 |aust;");
        fault(1, "resource 0 1 0 0 |musa;");
        fault(1, "resource 0 1 0 0 |aree;");
        fault(1, "resource 0 1 0 0 |frea;");
        fault(1, "resource 0 1 0 0 must |freee;");
        fault(1, "|zzzz 0 1 1;");
        fault(1, "|aaaa 0 1 1;");
    }

    // ---- INTS (1 to 4 digits, as many as stand there); an INT of more digits can't stand there
    private static void ints() {
        due("14 one digit", told("ceiling 7;", 1).count(2), 7);
        due("14 two digits", told("ceiling 17;", 1).count(2), 17);
        due("14 three digits", told("ceiling 170;", 1).count(2), 170);
        due("14 four digits", told("ceiling 1709;", 1).count(2), 1709);
        due("14 0", told("ceiling 0;", 1).count(2), 0);
        due("14 0000", told("ceiling 0000;", 1).count(2), 0);
        due("14 0009", told("ceiling 0009;", 1).count(2), 9);
        due("14 9999", told("ceiling 9999;", 1).count(2), 9999);
        fault(1, "ceiling |10000;");
        fault(1, "ceiling |00000;");
        fault(1, "ceiling |00001;");
        fault(1, "ceiling |99999;");
        fault(1, "ceiling |4294967296;");
        fault(1, "ceiling |18446744073709551617;");
        fault(1, "ceiling |" + "1".repeat(400) + ";");
        fault(1, "ceiling 1|/;");
        fault(1, "ceiling 1|:;");
        fault(1, "ceiling |/;");
        fault(1, "ceiling |:;");
        fault(1, "ceiling |-1;");
        fault(1, "ceiling |+1;");
        fault(1, "ceiling 1|.5;");
        fault(1, "floor 1|,2;");
        fault(1, "floor |11111 1;");
    }

    // ---- blanks (32, 10) between or not
    private static void blanks() {
        ZoneCapacity x = told("zone0 1 2;curve3 7 5 8 4;resource3 9 1 2must free;offer3 4 5;floor3 6;ceiling8;limits3 4 5;", 7);
        ZoneCapacity y = told("\n zone\n\n0  1\n2 ; curve 3  7\n5 8 4 ;\nresource 3 9 1 2 must\nfree ; offer 3 4 5 ; "
            + "floor 3 6\n;\nceiling 8 ; limits 3 4 5 ;\n ", 7);
        Check.dueSame("4 with and without blanks", Twins.look(x), Twins.look(y));
        for (int sign : new int[] {0, 9, 11, 12, 13, 31, 33, 127, 128, 160, 255}) {
            char c = (char) sign;
            fault(1, "|" + c + "ceiling 1;");
            fault(1, "ceiling|" + c + "1;");
            fault(1, "ceiling 1|" + c + ";");
            fault(1, "ceiling 1;|" + c);
        }
        fault(1, "|cei ling 1;");
        fault(1, "ceiling 1 |1;");
        fault(1, "resource 0 1 0 0 |mu st;");
    }

    // ---- what can't stand there: any sign that is in no TOKEN
    private static void otherSigns() {
        for (int sign = 0; sign < 256; sign++) {
            boolean blank = sign == 32 || sign == 10;
            boolean more = sign >= '0' && sign <= '9';
            if (!blank && !more) {
                fault(1, sign == ';' ? "ceiling 1;|;" : "ceiling 1|" + (char) sign + ";");
            } else {
                told("ceiling 1" + (char) sign + ";", 1);
            }
        }
    }

    // ---- { STATEMENT ; }: each has one
    private static void semicolons() {
        fault(1, "|;");
        fault(1, "ceiling 1;|;");
        fault(1, "ceiling 1;|;ceiling 2;");
        fault(1, "ceiling 1 |ceiling 2;");
        fault(1, "ceiling|;");
        fault(1, "zone 0 1 1|");
        fault(1, "zone 0 1 1 |floor 1 1;");
        fault(1, "curve 0|");
        fault(1, "resource 0 1 0 0|");
        fault(1, "resource 0 1 0 0 must|");
        fault(1, "resource 0 1 0 0 must free|");
        fault(1, "resource 0 1 0 0 free |5;");
        fault(1, "offer 0|");
        fault(1, "floor 0 1|");
        fault(1, "limits 1 1 1|");
        fault(1, "|5;");
    }

    // ---- the end's place: the text's length
    private static void theEnd() {
        fault(1, "zone|");
        fault(1, "zone   |");
        fault(1, "zone 0\n\n|");
        fault(1, "zone 0 1 1|");
        fault(1, "zone 0 1 1   |");
        fault(1, "ceiling 1; zone |");
        fault(1, "curve 0 7|");
        fault(1, "offer 0 1|");
        fault(1, "zone 0 1" + " ".repeat(492) + "|");
    }

    // ---- 1: a STATEMENT can't stand in another one, wherever that is cut
    private static void aStatementInAStatement() {
        String[] statements = {"zone 0 1 1", "curve 0 7 7 8 7", "resource 0 1 0 0 must free", "offer 0 1 1 1 2 1 3",
            "floor 0 1", "ceiling 1", "limits 1 1 1"};
        String[] others = {"zone 0 2 2;", "curve 1;", "resource 1 2 0 0;", "offer 1;", "floor 1 2;", "ceiling 2;",
            "limits 2 2 2;"};
        for (String statement : statements) {
            for (int end = statement.indexOf(' '); end >= 0; end = statement.indexOf(' ', end + 1)) {
                inside(statement.substring(0, end), others);
            }
            inside(statement, others);
        }
        for (String other : others) {
            told(other, 1);
        }
    }

    private static void inside(String ahead, String[] others) {
        for (String other : others) {
            fault(1, ahead + " |" + other);
        }
        fault(1, ahead + "|");
        if (!Character.isDigit(ahead.charAt(ahead.length() - 1)) && !ahead.startsWith("resource 0")) {
            fault(1, ahead + " |must;");
            fault(1, ahead + " |free;");
            fault(1, ahead + "|;");
        }
    }

    // ---- zone INT INT INT (OUTER, IN, OUT)
    private static void zoneStatement() {
        for (int outer = 0; outer < 3; outer++) {
            due("15 outer", told("zone " + outer + " 1 1;", 1).zoneOf(3, 0), outer);
        }
        fault(2, "zone |3 1 1;");
        fault(2, "zone |9999 1 1;");
        for (int v : new int[] {0, 1, 9998, 9999}) {
            due("15 in " + v, told("zone 0 " + v + " 5;", 1).zoneOf(3, 1), v);
            due("15 out " + v, told("zone 0 5 " + v + ";", 1).zoneOf(3, 2), v);
        }
        fault(1, "zone 0 |10000 1;");
        fault(1, "zone 0 1 |10000;");
        fault(1, "zone|;");
        fault(1, "zone 0|;");
        fault(1, "zone 0 1|;");
        fault(1, "zone 0 1 1 |1;");
        fault(1, "zone |x 1 1;");
        fault(1, "zone 0 |x 1;");
        fault(1, "zone 0 1 |x;");
        due("14 one is in the next", told("zone 0 1 1; zone 3 2 2;", 2).zoneOf(4, 0), 3);
        fault(2, "zone 0 1 1; zone |4 2 2;");
        Twins.faulty(Markets::empty, 2, "zone |1 1 1;");
    }

    // ---- curve INT { INT INT } (ZONE; its POINTS): UNITS 1 to 2000, PRICE 0 to 9999
    private static void curveStatement() {
        for (int zone = 0; zone < 3; zone++) {
            due("15 wanted", told("curve " + zone + " 77 1;", 1).zoneOf(zone, 4), 77);
        }
        fault(2, "curve |3;");
        fault(2, "curve |3 1 1;");
        fault(2, "curve |9999 1 1;");
        Twins.faulty(Markets::empty, 2, "curve |1 1 1;");
        for (int units : new int[] {1, 2, 1999, 2000}) {
            due("15 units " + units, told("curve 0 " + units + " 5;", 1).zoneOf(0, 4), units);
        }
        fault(2, "curve 0 |0 5;");
        fault(2, "curve 0 |2001 5;");
        fault(2, "curve 0 |9999 5;");
        fault(2, "curve 0 1 5 |2001 5;");
        fault(1, "curve 0 |20000 5;");
        for (int price : new int[] {0, 1, 9998, 9999}) {
            due("18 price " + price, told("curve 0 7 " + price + ";", 1).worth(0, 7), price);
        }
        fault(1, "curve 0 7 |10000;");
        fault(1, "curve 0 7|;");
        fault(1, "curve 0 7 7 8|;");
        fault(1, "curve 0 7 7 |x;");
        fault(1, "curve 0 7 |x;");
        fault(1, "curve|;");
        fault(1, "curve |x;");
    }

    // ---- 2: UNITS that do not rise (in the same STATEMENT)
    private static void curveUnitsRise() {
        due("15 a unit more", told("curve 0 7 9 8 9;", 1).zoneOf(0, 4), 8);
        fault(2, "curve 0 7 9 |7 9;");
        fault(2, "curve 0 7 9 |6 9;");
        fault(2, "curve 0 7 9 9 9 |8 9;");
        fault(2, "curve 0 2000 9 |2000 9;");
        due("15 of another statement", told("curve 0 7 9; curve 0 7 9; curve 0 6 9;", 3).zoneOf(0, 4), 6);
    }

    // ---- 2: PRICE above the one ahead (in the same STATEMENT)
    private static void curvePriceNotAbove() {
        due("18 as high", told("curve 0 7 9 8 9;", 1).worth(0, 8), 9);
        due("18 below", told("curve 0 7 9 8 8;", 1).worth(0, 8), 8);
        fault(2, "curve 0 7 9 8 |10;");
        fault(2, "curve 0 7 9 8 8 9 |9;");
        fault(2, "curve 0 7 0 8 |1;");
        due("18 of another statement", told("curve 0 7 9; curve 0 8 10;", 2).worth(0, 8), 10);
    }

    // ---- its POINTS from now on: none, 1, 4
    private static void curveFromNowOn() {
        ZoneCapacity x = told("curve 0;", 1);
        due("15 none", x.zoneOf(0, 3), 0);
        due("15 nothing wanted", x.zoneOf(0, 4), 0);
        due("15 of another zone", x.zoneOf(1, 3), 1);
        x = told("curve 0 1 40 2 30 3 20 2000 10;", 1);
        due("15 four", x.zoneOf(0, 3), 4);
        due("18 the first", x.worth(0, 1), 40);
        due("18 the last", x.worth(0, 2000), 10);
        Check.dueTold(x, "curve 0 5 50;", 1);
        due("15 one alone", x.zoneOf(0, 3), 1);
        due("18 its worth", x.worth(0, 1), 50);
        due("18 none beyond", x.worth(0, 6), -1);
    }

    // ---- resource INT INT INT INT (ZONE, SIZE 1 to 500, KIND 0 to 3, OWNER 0 to 5)
    private static void resourceStatement() {
        for (int zone = 0; zone < 3; zone++) {
            due("16 zone", told("resource " + zone + " 1 0 0;", 1).resourceOf(3, 0), zone);
        }
        fault(2, "resource |3 1 0 0;");
        Twins.faulty(Markets::empty, 2, "resource |1 1 0 0;");
        for (int size : new int[] {1, 2, 499, 500}) {
            due("16 size", told("resource 0 " + size + " 0 0;", 1).resourceOf(3, 1), size);
        }
        fault(2, "resource 0 |0 0 0;");
        fault(2, "resource 0 |501 0 0;");
        fault(1, "resource 0 |00500 0 0;");
        for (int kind = 0; kind < 4; kind++) {
            due("16 kind", told("resource 0 1 " + kind + " 0;", 1).resourceOf(3, 2), kind);
        }
        fault(2, "resource 0 1 |4 0;");
        for (int owner = 0; owner < 6; owner++) {
            due("16 owner", told("resource 0 1 0 " + owner + ";", 1).resourceOf(3, 3), owner);
        }
        fault(2, "resource 0 1 0 |6;");
        fault(1, "resource|;");
        fault(1, "resource 0|;");
        fault(1, "resource 0 1|;");
        fault(1, "resource 0 1 0|;");
        fault(1, "resource 0 1 0 |must;");
        fault(1, "resource 0 1 0 0 |0;");
    }

    // ---- [ must ] [ free ]
    private static void resourceMustFree() {
        String[] words = {"", " must", " free", " must free"};
        for (int i = 0; i < 4; i++) {
            ZoneCapacity x = told("resource 0 1 0 0" + words[i] + ";", 1);
            due("16 must with" + words[i], x.resourceOf(3, 4), i % 2);
            due("16 free with" + words[i], x.resourceOf(3, 5), i / 2);
            due("16 no step", x.resourceOf(3, 6), 0);
        }
        fault(1, "resource 0 1 0 0 free |must;");
        fault(1, "resource 0 1 0 0 must |must;");
        fault(1, "resource 0 1 0 0 free |free;");
        fault(1, "resource 0 1 0 0 must free |free;");
        fault(1, "resource 0 1 0 0 must |zone;");
    }

    // ---- offer INT { INT INT } (RESOURCE; its STEPS): units 1 to 500, PRICE 0 to 9999
    private static void offerStatement() {
        for (int r = 0; r < 3; r++) {
            due("17 units", told("offer " + r + " 3 77;", 1).line(r, 0, false), 3);
        }
        fault(2, "offer |3;");
        fault(2, "offer |3 1 1;");
        fault(2, "offer |9999 1 1;");
        Twins.faulty(Markets::empty, 2, "offer |0;");
        Twins.faulty(Markets::full, 2, "offer |12;");
        for (int units : new int[] {1, 2, 499, 500}) {
            due("17 units " + units, told("resource 0 500 0 0; offer 3 " + units + " 5;", 2).line(3, 0, false), units);
        }
        fault(2, "resource 0 500 0 0; offer 3 |0 5;");
        fault(2, "resource 0 500 0 0; offer 3 |501 5;");
        fault(2, "resource 0 500 0 0; offer 3 1 5 |0 5;");
        fault(2, "resource 0 500 0 0; offer 3 1 5 |501 5;");
        for (int price : new int[] {0, 1, 9998, 9999}) {
            due("17 price " + price, told("offer 2 1 " + price + ";", 1).line(2, 0, true), price);
        }
        fault(1, "offer 2 1 |10000;");
        fault(1, "offer 2 1|;");
        fault(1, "offer 2 1 1 1|;");
        fault(1, "offer 2 |x;");
        fault(1, "offer 2 1 |x;");
        fault(1, "offer 2 1 1 |x;");
        fault(1, "offer|;");
        fault(1, "offer |x;");
    }

    // ---- 2: PRICE of STEPS below the one ahead in the same STATEMENT
    private static void offerPriceNotBelow() {
        due("17 as low", told("offer 2 1 9 1 9;", 1).line(2, 1, true), 9);
        due("17 above", told("offer 2 1 9 1 10;", 1).line(2, 1, true), 10);
        fault(2, "offer 2 1 9 1 |8;");
        fault(2, "offer 2 1 9 1 10 1 |9;");
        fault(2, "offer 2 1 9999 1 |9998;");
        due("17 of another statement", told("offer 2 1 9; offer 2 1 8;", 2).line(2, 0, true), 8);
        due("17 of calls ahead", told("offer 0 1 0;", 1).resourceOf(0, 6), 1);
    }

    // ---- its STEPS from now on: none, 1, 3
    private static void offerFromNowOn() {
        ZoneCapacity x = told("offer 0;", 1);
        due("16 none", x.resourceOf(0, 6), 0);
        due("16 of another resource", x.resourceOf(1, 6), 1);
        x = told("offer 0 1 10 2 20 3 30;", 1);
        due("16 three", x.resourceOf(0, 6), 3);
        for (int k = 0; k < 3; k++) {
            due("17 units", x.line(0, k, false), k + 1);
            due("17 its", x.line(0, k, true), 10 * k + 10);
        }
        Check.dueTold(x, "offer 0 10 8;", 1);
        due("16 one alone", x.resourceOf(0, 6), 1);
        due("17 all the size", x.line(0, 0, false), 10);
    }

    // ---- floor INT INT (KIND 0 to 3; 0 to 9999)
    private static void floorStatement() {
        for (int kind = 0; kind < 4; kind++) {
            due("14 floor", told("floor " + kind + " 66;", 1).count(10 + kind), 66);
        }
        for (int v : new int[] {0, 1, 9998, 9999}) {
            due("14 floor " + v, told("floor 1 " + v + ";", 1).count(11), v);
        }
        due("14 it is so", told("floor 1 7;", 1).count(11), 7);
        fault(2, "floor |4 1;");
        fault(2, "floor |9999 1;");
        fault(1, "floor 1 |10000;");
        fault(1, "floor 1|;");
        fault(1, "floor|;");
        fault(1, "floor 1 1 |1;");
    }

    // ---- ceiling INT (0 to 9999)
    private static void ceilingStatement() {
        for (int v : new int[] {0, 1, 9998, 9999}) {
            due("14 ceiling " + v, told("ceiling " + v + ";", 1).count(2), v);
        }
        due("14 it is so", told("ceiling 11;", 1).count(2), 11);
        fault(1, "ceiling |10000;");
        fault(1, "ceiling|;");
        fault(1, "ceiling 1 |1;");
    }

    // ---- limits INT INT INT (ZONE, not 0; IN, OUT)
    private static void limitsStatement() {
        for (int zone = 1; zone < 3; zone++) {
            ZoneCapacity x = told("limits " + zone + " 66 77;", 1);
            due("15 in", x.zoneOf(zone, 1), 66);
            due("15 out", x.zoneOf(zone, 2), 77);
            due("15 of the other", x.zoneOf(3 - zone, 1), zone == 1 ? 3 : 4);
        }
        for (int v : new int[] {0, 1, 9998, 9999}) {
            due("15 in " + v, told("limits 1 " + v + " 5;", 1).zoneOf(1, 1), v);
            due("15 out " + v, told("limits 1 5 " + v + ";", 1).zoneOf(1, 2), v);
        }
        due("15 it is so", told("limits 1 4 5;", 1).zoneOf(1, 1), 4);
        fault(2, "limits |0 1 1;");
        fault(2, "limits |3 1 1;");
        fault(2, "limits |9999 1 1;");
        fault(1, "limits 1 |10000 1;");
        fault(1, "limits 1 1 |10000;");
        fault(1, "limits|;");
        fault(1, "limits 1|;");
        fault(1, "limits 1 1|;");
        fault(1, "limits 1 1 1 |1;");
        Twins.faulty(Markets::empty, 2, "limits |0 1 1;");
        Twins.faulty(Markets::empty, 2, "limits |1 1 1;");
        Twins.faulty(Markets::full, 2, "limits |6 1 1;");
    }

    // ---- STATEMENTS are done one by one
    private static void oneByOne() {
        ZoneCapacity x = told("zone 0 1 1; limits 3 2 2; limits 3 3 4; curve 3 5 5; resource 3 9 0 0; offer 3 9 1;", 6);
        due("15 in", x.zoneOf(3, 1), 3);
        due("15 wanted", x.zoneOf(3, 4), 5);
        due("17 units", x.line(3, 0, false), 9);
        fault(2, "limits |3 2 2; zone 0 1 1;");
        fault(2, "curve |3; zone 0 1 1;");
        fault(2, "offer |3; resource 0 1 0 0;");
    }

    // ---- 3: a ZONE too many, at the word zone (there ahead of 1, 2)
    private static void tooManyZones() {
        String three = "zone 0 1 1;".repeat(3);
        due("14 six", told(three, 3).count(0), 6);
        fault(3, three + "|zone 0 1 1;");
        fault(3, three + "|zone");
        fault(3, three + "|zone 99999 x");
        fault(3, three + "|zone 9 1 1;");
        fault(1, three + "|zones 0 1 1;");
        Twins.faulty(Markets::full, 3, " |zone 0 1 1;");
        fault(1, three + "floor |zone;");
    }

    // ---- 3: a RESOURCE too many, at the word resource (there ahead of 1, 2)
    private static void tooManyResources() {
        String nine = "resource 0 1 0 0;".repeat(9);
        due("14 twelve", told(nine, 9).count(1), 12);
        fault(3, nine + "|resource 0 1 0 0;");
        fault(3, nine + "|resource");
        fault(3, nine + "|resource 9 1 0 0;");
        fault(3, nine + "|resource 99999;");
        fault(1, nine + "|resources 0 1 0 0;");
        Twins.faulty(Markets::full, 3, "\n|resource 0 1 0 0;");
    }

    // ---- 3: a POINT too many, at the INT with which it begins (there ahead of 1, 2)
    private static void tooManyPoints() {
        String four = "curve 0 1 9 2 9 3 9 4 9";
        due("15 four", told(four + ";", 1).zoneOf(0, 3), 4);
        fault(3, four + " |5 9;");
        fault(3, four + " |5;");
        fault(3, four + " |5");
        fault(3, four + " |4 9;");
        fault(3, four + " |0 9;");
        fault(3, four + " |2001 9;");
        fault(3, four + " |55555 9;");
        fault(1, four + " |x 9;");
        fault(1, four + "|");
        fault(2, "curve 0 1 9 2 9 3 9 |3 9 5 9;");
        due("15 four again", told(four + ";" + four + ";", 2).zoneOf(0, 3), 4);
        Twins.faulty(Markets::full, 3, "curve 5 1 1 2 1 3 1 4 1 |5 1;");
    }

    // ---- 3: a STEP too many, at the INT with which it begins (there ahead of 1, 2)
    private static void tooManySteps() {
        String three = "offer 0 1 1 2 2 3 3";
        due("16 three", told(three + ";", 1).resourceOf(0, 6), 3);
        fault(3, three + " |1 9;");
        fault(3, three + " |1;");
        fault(3, three + " |1");
        fault(3, three + " |0 9;");
        fault(3, three + " |501 9;");
        fault(3, three + " |55555 9;");
        fault(3, "offer 0 9 1 9 1 9 1 |9 1;");
        fault(1, three + " |x 9;");
        fault(1, three + "|");
        fault(2, "offer 0 1 1 2 2 1 |1 1 1;");
        due("16 three again", told(three + ";" + three + ";", 2).resourceOf(0, 6), 3);
    }

    // ---- 4: at the word offer, if its units are more than SIZE together
    private static void moreThanSize() {
        due("17 just its size", told("offer 0 10 1;", 1).line(0, 0, false), 10);
        due("16 just its size", told("offer 0 5 1 5 1;", 1).resourceOf(0, 6), 2);
        due("16 just its size", told("offer 0 4 1 5 1 1 1;", 1).resourceOf(0, 6), 3);
        fault(4, "|offer 0 11 1;");
        fault(4, "|offer 0 5 1 6 1;");
        fault(4, "|offer 0 4 1 5 1 2 1;");
        fault(4, "|offer 0 500 1 500 1 500 1;");
        fault(4, " \n|offer 1 7 1;");
        fault(4, "ceiling 1;|offer 2 5 1;");
        due("17 a resource of 500", told("resource 0 500 0 0; offer 3 498 1 1 1 1 1;", 2).line(3, 0, false), 498);
        fault(4, "resource 0 500 0 0; |offer 3 500 1 1 1;");
        fault(4, "resource 0 1 0 0; |offer 3 1 1 1 1;");
    }

    // ---- 4: told whole, its ;, too
    private static void moreThanSizeToldWhole() {
        fault(4, "|offer 0 11 1;");
        fault(1, "offer 0 11 1|");
        fault(1, "offer 0 11 1 |x;");
        fault(1, "offer 0 11 1 1|;");
        fault(2, "offer 0 11 2 1 |1;");
        fault(2, "offer 0 11 2 |501 2;");
        fault(3, "offer 0 11 1 1 1 1 1 |1 1;");
        fault(4, "|offer 0 11 1;x");
        fault(4, "|offer 0 11 1;floor 4 1;");
    }

    // ---- the first along the text
    private static void theFirstAlongTheText() {
        fault(1, "floor |x 99999;");
        fault(2, "floor |4 99999;");
        fault(2, "zone |7 99999 x");
        fault(1, "zone 0 |99999 x");
        fault(2, "floor |4 1; ceiling 99999;");
        fault(1, "ceiling |99999; floor 4 1;");
        fault(2, "curve 0 |0 99999;");
        fault(2, "curve 0 7 7 |7 8;");
        fault(2, "curve 0 7 7 8 |8");
        fault(2, "offer 0 |501");
        fault(1, "ceiling |x; zone 9 9 9;");
    }

    // ---- of one place the least: an INT of more digits is 1, though it is out of its bounds, too
    private static void ofOnePlaceTheLeast() {
        fault(1, "zone |10000 1 1;");
        fault(1, "curve 0 |99999 1;");
        fault(1, "curve 0 7 7 8 |99999;");
        fault(1, "resource 0 |99999 0 0;");
        fault(1, "offer 0 |99999 1;");
        fault(1, "limits |00000 1 1;");
    }
}
