import java.util.NoSuchElementException;
import java.util.Random;

/**
 * Calls with any numbers at all: nothing but the document's exception is ever thrown, only by the
 * two calls that have it, and what can't be changes nothing. Each call is made on one object, on its
 * twin only the changes that were not refused: both have to tell the same at the end.
 */
public final class GarbageTest {
    private static final int[] ODD = {
        Integer.MIN_VALUE, Integer.MIN_VALUE + 1, -1000000, -10000, -501, -100, -13, -7, -2, -1, 0, 1, 2, 3, 4,
        5, 6, 7, 9, 10, 11, 12, 13, 14, 24, 25, 35, 36, 48, 99, 100, 105, 106, 499, 500, 501, 1999, 2000, 2001,
        9998, 9999, 10000, 65536, 1 << 24, Integer.MAX_VALUE - 1, Integer.MAX_VALUE,
    };
    /** With those of a full market and of told() no object has more than 512. */
    private static final int CALLS = 130;

    private final Random random;
    private final String name;
    private final ZoneCapacity x = new ZoneCapacity();
    private final ZoneCapacity twin = new ZoneCapacity();

    /** A change, as it answers; a refused one answers NONE, a boolean counts 1 or NONE. */
    private interface Change {
        int on(ZoneCapacity x);
    }

    private GarbageTest(int seed) {
        random = new Random(seed);
        name = "run " + seed + ": ";
        begin(x, seed / 3 % 3);
        begin(twin, seed / 3 % 3);
    }

    private static void begin(ZoneCapacity x, int with) {
        if (with == 0) {
            Markets.empty(x);
        } else if (with == 1) {
            Markets.ordinary(x);
        } else {
            Markets.full(x);
        }
    }

    public static void main(String[] args) {
        for (int seed = 1; seed <= 1800 && !Check.isWrong(); seed++) {
            GarbageTest test = new GarbageTest(seed);
            for (int i = 0; i < CALLS; i++) {
                test.call(seed % 3);
            }
            Check.dueSame(test.name + "what is told", told(test.x), told(test.twin));
        }
        largest();
        Check.finish();
    }

    private int odd() {
        return random.nextInt(3) == 0 ? random.nextInt() : ODD[random.nextInt(ODD.length)];
    }

    private int small() {
        return random.nextInt(4) == 0 ? odd() : random.nextInt(7);
    }

    private int any(int how) {
        return how == 0 ? odd() : small();
    }

    private void call(int how) {
        int which = random.nextInt(37);
        try {
            if (which < 15) {
                change(which, how);
            } else {
                look(which, how);
            }
        } catch (NoSuchElementException e) {
            Check.due(name + "call " + which + " may throw", which == 15 || which == 16, true);
        } catch (RuntimeException e) {
            Check.due(name + "call " + which + " threw " + e, 1, 0);
        }
    }

    private void change(int which, int how) {
        Change change = changeOf(which, how);
        int answer = change.on(x);
        // tell() empties the tape, though it answers NONE
        if (answer != -1 || which == 2) {
            Check.due(name + "call " + which + " of the twin", change.on(twin), answer);
        }
    }

    private static int number(boolean answer) {
        return answer ? 1 : -1;
    }

    private Change changeOf(int which, int how) {
        boolean yes = random.nextBoolean();
        int seldom = random.nextInt(9) == 0 ? any(how) : odd();
        int a = any(how);
        int b = any(how);
        int c = any(how);
        int d = any(how);
        int e = odd();
        switch (which) {
            case 0:
                return x -> x.feed(a, b, c, d, e);
            case 1:
                return x -> number(x.end(a));
            case 2:
                return ZoneCapacity::tell;
            case 3:
            case 4:
                return x -> x.zone(a, b, c);
            case 5:
            case 6:
                return x -> x.point(a, b, c);
            case 7:
            case 8:
                return x -> x.resource(a, b, c, d, yes);
            case 9:
            case 10:
                return x -> x.step(a, b, c);
            case 11:
                return x -> x.drop(seldom, yes);
            case 12:
                return x -> number(x.set(a, b, c));
            case 13:
                return x -> number(x.keep(a));
            default:
                return x -> number(x.back(seldom));
        }
    }

    private void look(int which, int how) {
        boolean yes = random.nextBoolean();
        int a = any(how);
        int b = any(how);
        switch (which) {
            case 15: x.zoneOf(a, b); break;
            case 16: x.resourceOf(a, b); break;
            case 17: x.line(a, b, yes); break;
            case 18: x.worth(a, b); break;
            case 19: x.wants(a, b); break;
            case 20: x.level(a, b, yes); break;
            case 21: x.price(a); break;
            case 22: x.net(a); break;
            case 23: x.served(a); break;
            case 24: x.taken(a, b); break;
            case 25: x.binds(a); break;
            case 26: x.surplus(); break;
            case 27: x.rent(a); break;
            case 28: x.paid(a); break;
            case 29: x.charged(a); break;
            case 30: x.without(a, b); break;
            case 31: x.pivotal(a, b); break;
            case 32: x.wider(a, b, yes); break;
            case 33: x.needs(a); break;
            case 34: x.freely(a); break;
            case 35: x.gain(a, b, any(how)); break;
            default: x.best(a, b); break;
        }
    }

    /** All that is told, in some three hundred calls at most. */
    private static String told(ZoneCapacity x) {
        StringBuilder b = new StringBuilder("\nfault ").append(x.fault()).append(" counts");
        for (int what = 0; what < 14; what++) {
            b.append(' ').append(x.count(what));
        }
        int zones = x.count(0);
        for (int z = 0; z < zones; z++) {
            b.append("\nzone ").append(z);
            for (int what = 0; what < 6; what++) {
                b.append(' ').append(x.zoneOf(z, what));
            }
            for (int u = 1; u < 12; u++) {
                b.append(' ').append(x.worth(z, u));
            }
        }
        int resources = x.count(1);
        for (int r = 0; r < resources; r++) {
            b.append("\nresource ").append(r);
            for (int what = 0; what < 7; what++) {
                b.append(' ').append(x.resourceOf(r, what));
            }
            for (int k = 0; k < 4; k++) {
                b.append(' ').append(x.line(r, k, false)).append(" at ").append(x.line(r, k, true));
            }
        }
        return b.toString();
    }

    /** The most of everything: no number is beyond what holds it. */
    private static void largest() {
        ZoneCapacity x = new ZoneCapacity();
        for (int z = 0; z < 6; z++) {
            Check.due("zone", z == 0 || x.zone(z - 1, 9999, 9999) == z, true);
            for (int i = 0; i < 4; i++) {
                x.point(z, i == 3 ? 2000 : i + 1, 9999);
            }
        }
        for (int r = 0; r < 12; r++) {
            x.resource(r / 2, 500, r % 4, 0, true);
            x.step(r, 498, 0);
            x.step(r, 1, 1);
            x.step(r, 1, 9998);
        }
        Check.due("low", x.level(0, 0, false), -11999);
        Check.due("price", x.price(0), 9999);
        Check.due("served", x.served(0) + x.served(1) + x.served(2) + x.served(3) + x.served(4) + x.served(5), 6000);
        Check.due("paid", x.paid(100), 6000L * 9999);
        Check.due("surplus", x.surplus(), 6000L * 9999 - 12 - 12 * 9998);
        Check.due("needs", x.needs(1), 0);
        for (int r = 0; r < 12; r++) {
            x.drop(r, true);
            x.step(r, 500, 0);
        }
        x.drop(0, false);
        Check.due("price of the others", x.price(0), 9999);
        Check.due("net", x.net(1), -1000);
        x = new ZoneCapacity();
        for (int z = 1; z < 6; z++) {
            x.zone(z - 1, 9999, 9999);
            x.point(z, 2000, 9999);
        }
        for (int r = 0; r < 12; r++) {
            x.resource(0, 500, 0, 0, false);
            x.step(r, 500, 0);
        }
        Check.due("net of 10000 wanted", x.net(1), -6000);
        Check.due("needs one more than there are", x.needs(1), 6001);
    }
}
