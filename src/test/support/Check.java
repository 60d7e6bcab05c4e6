/** What the tests share: answers that are due, and texts put on the tape. */
final class Check {
    private static int wrong = 0;

    private Check() {
    }

    static void due(String call, long got, long want) {
        if (got != want) {
            wrong++;
            if (wrong <= 40) {
                System.out.println(call + " answered " + got + ", due is " + want);
            }
        }
    }

    static void due(String call, boolean got, boolean want) {
        due(call, got ? 1L : 0L, want ? 1L : 0L);
    }

    static void dueSame(String what, String got, String want) {
        if (!got.equals(want)) {
            wrong++;
            if (wrong <= 40) {
                System.out.println(what + " is" + got + "\ndue is" + want);
            }
        }
    }

    /** A call that is due to throw NoSuchElementException: of a zone, of a resource. */
    static void dueNoZone(ZoneCapacity x, int zone, int what) {
        boolean thrown = false;
        try {
            x.zoneOf(zone, what);
        } catch (java.util.NoSuchElementException e) {
            thrown = true;
        }
        due("zoneOf(" + zone + ", " + what + ") throws", thrown, true);
    }

    static void dueNoResource(ZoneCapacity x, int resource, int what) {
        boolean thrown = false;
        try {
            x.resourceOf(resource, what);
        } catch (java.util.NoSuchElementException e) {
            thrown = true;
        }
        due("resourceOf(" + resource + ", " + what + ") throws", thrown, true);
    }

    /** Puts a text on an empty tape. */
    static void put(ZoneCapacity x, String text) {
        int[] five = new int[5];
        for (int from = 0; from < text.length(); from += 20) {
            for (int i = 0; i < 5; i++) {
                five[i] = 0;
                for (int j = 0; j < 4; j++) {
                    int at = from + i * 4 + j;
                    five[i] = five[i] << 8 | (at < text.length() ? text.charAt(at) & 255 : 32);
                }
            }
            due("feed of " + text, x.feed(five[0], five[1], five[2], five[3], five[4]), from + 20);
        }
        due("end of " + text, x.end(text.length()), true);
    }

    static int tell(ZoneCapacity x, String text) {
        put(x, text);
        return x.tell();
    }

    /** A text that is due to have so many statements and no fault. */
    static void dueTold(ZoneCapacity x, String text, int statements) {
        due("tell of " + text, tell(x, text), statements);
        due("fault of " + text, x.fault(), 0);
    }

    /** A text that is due to have a fault. */
    static void dueFault(ZoneCapacity x, String text, int kind, int place) {
        due("tell of " + text, tell(x, text), -1);
        due("fault's kind of " + text, x.fault() % 8, kind);
        due("fault's place of " + text, x.fault() / 8, place);
        due("tape behind " + text, x.count(3), 0);
    }

    static boolean isWrong() {
        return wrong > 0;
    }

    static void finish() {
        System.out.println(wrong == 0 ? "all answers are as due" : wrong + " answers are not as due");
        if (wrong != 0) {
            System.exit(1);
        }
    }
}
