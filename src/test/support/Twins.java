/**
 * Calls that must change nothing: two objects are made by the same calls, one of them is called, and
 * both have to answer the same from then on. Each object has fewer than 512 calls.
 */
final class Twins {
    /** What makes a new object into the one that is looked at. */
    interface Maker {
        void make(ZoneCapacity x);
    }

    /** A call, its answer as a number. */
    interface Call {
        long on(ZoneCapacity x);
    }

    /** A call that answers true or false. */
    interface Question {
        boolean on(ZoneCapacity x);
    }

    /** In how many ways two objects are compared: as they are, as kept in slot 0, 1, with the tape told. */
    private static final int WAYS = 4;
    private static final int[] UNITS = {1, 2, 3, 4, 5, 6, 8, 13};

    private Twins() {
    }

    static ZoneCapacity made(Maker maker) {
        ZoneCapacity x = new ZoneCapacity();
        maker.make(x);
        return x;
    }

    /** A call that is due to answer so, and to change nothing at all. */
    static void same(String name, Maker maker, Call call, long answer) {
        for (int way = 0; way < WAYS; way++) {
            ZoneCapacity called = made(maker);
            ZoneCapacity twin = made(maker);
            Check.due(name, call.on(called), answer);
            Check.due(name + ", tape behind", called.count(3), twin.count(3));
            Check.due(name + ", fault behind", called.fault(), twin.fault());
            Check.dueSame(name + ", compared in way " + way, look(called, way), look(twin, way));
        }
    }

    /** A call that is due to answer false, and to change nothing at all. */
    static void no(String name, Maker maker, Question question) {
        same(name, maker, x -> question.on(x) ? 1 : 0, 0);
    }

    /**
     * A text that is due to have a fault, at the place that the sign | marks (which isn't told): the
     * tape is empty then, and all else stays.
     */
    static void faulty(Maker maker, int kind, String marked) {
        int place = marked.indexOf('|');
        String text = marked.substring(0, place) + marked.substring(place + 1);
        for (int way = 0; way < WAYS - 1; way++) {
            ZoneCapacity told = made(maker);
            ZoneCapacity twin = made(maker);
            told.end(0);
            Check.due("tell of " + text, Check.tell(told, text), -1);
            Check.due("fault's kind of " + text, told.fault() % 8, kind);
            Check.due("fault's place of " + text, told.fault() / 8, place);
            Check.due("tape behind " + text, told.count(3), 0);
            Check.dueSame("way " + way + " behind " + text, look(told, way), look(twin, way));
        }
    }

    private static String look(ZoneCapacity x, int way) {
        StringBuilder b = new StringBuilder();
        if (way == 1 || way == 2) {
            b.append("back ").append(x.back(way - 1));
        } else if (way == 3) {
            b.append("told ").append(x.tell()).append(" fault ").append(x.fault());
        }
        return b.append(look(x)).toString();
    }

    /** All that is told and cleared, in some three hundred calls at most. */
    static String look(ZoneCapacity x) {
        StringBuilder b = new StringBuilder("\ncounts");
        for (int what : new int[] {0, 1, 2, 10, 11, 12, 13}) {
            b.append(' ').append(x.count(what));
        }
        for (int z = 0; z < x.count(0); z++) {
            b.append("\nzone ").append(z);
            for (int what = 0; what < 6; what++) {
                b.append(' ').append(x.zoneOf(z, what));
            }
            for (int u : UNITS) {
                b.append(' ').append(x.worth(z, u));
            }
            b.append(" cleared ").append(x.price(z)).append(' ').append(x.net(z));
            b.append(' ').append(x.served(z)).append(' ').append(x.binds(z));
            b.append(' ').append(x.rent(z));
        }
        for (int r = 0; r < x.count(1); r++) {
            b.append("\nresource ").append(r);
            for (int what = 0; what < 7; what++) {
                b.append(' ').append(x.resourceOf(r, what));
            }
            for (int k = 0; k < 4; k++) {
                b.append(' ').append(x.line(r, k, false)).append(" at ").append(x.line(r, k, true));
            }
            b.append(" taken ").append(x.taken(r, -1));
        }
        return b.append("\nsurplus ").append(x.surplus()).toString();
    }
}
