import java.util.NoSuchElementException;
import java.util.Random;

/**
 * Calls with any numbers at all: nothing but the document's exception is ever thrown, only by the
 * two calls that have it, and what can't be changes nothing.
 */
public final class GarbageTest {
    private static final int[] ODD = {
        Integer.MIN_VALUE, Integer.MIN_VALUE + 1, -1000000, -10000, -501, -100, -13, -7, -2, -1, 0, 1, 2, 3, 4,
        5, 6, 7, 9, 10, 11, 12, 13, 14, 24, 25, 35, 36, 48, 99, 100, 105, 106, 499, 500, 501, 1999, 2000, 2001,
        9998, 9999, 10000, 65536, 1 << 24, Integer.MAX_VALUE - 1, Integer.MAX_VALUE,
    };
    private final Random random;
    private final ZoneCapacity x = new ZoneCapacity();

    private GarbageTest(int seed) {
        random = new Random(seed);
    }

    public static void main(String[] args) {
        for (int seed = 1; seed <= 400; seed++) {
            GarbageTest test = new GarbageTest(seed);
            for (int i = 0; i < 512; i++) {
                test.call(seed % 3);
            }
        }
        largest();
        Check.finish();
    }

    private int odd() {
        return random.nextInt(3) == 0 ? random.nextInt() : ODD[random.nextInt(ODD.length)];
    }

    private int small() {
        return random.nextInt(4) == 0 ? odd() : random.nextInt(7);
    }

    private int any(int how) {
        return how == 0 ? odd() : small();
    }

    private void call(int how) {
        boolean yes = random.nextBoolean();
        int which = random.nextInt(37);
        try {
            if (which < 15) {
                change(which, how, yes);
            } else {
                look(which, how, yes);
            }
        } catch (NoSuchElementException e) {
            Check.due("call " + which + " may throw", which == 15 || which == 16, true);
        } catch (RuntimeException e) {
            Check.due("call " + which + " threw " + e, 1, 0);
        }
    }

    private void change(int which, int how, boolean yes) {
        int before = told();
        boolean same;
        switch (which) {
            case 0:
                same = x.feed(odd(), odd(), odd(), odd(), odd()) == -1;
                break;
            case 1:
                same = !x.end(any(how));
                break;
            case 2:
                x.tell();
                return;
            case 3:
            case 4:
                same = x.zone(any(how), any(how), any(how)) == -1;
                break;
            case 5:
            case 6:
                same = x.point(any(how), any(how), any(how)) == -1;
                break;
            case 7:
            case 8:
                same = x.resource(any(how), any(how), any(how), any(how), yes) == -1;
                break;
            case 9:
            case 10:
                same = x.step(any(how), any(how), any(how)) == -1;
                break;
            case 11:
                same = x.drop(random.nextInt(9) == 0 ? any(how) : odd(), yes) == -1;
                break;
            case 12:
                same = !x.set(any(how), any(how), any(how));
                break;
            case 13:
                x.keep(any(how));
                same = true;
                break;
            default:
                same = !x.back(random.nextInt(9) == 0 ? any(how) : odd());
                break;
        }
        Check.due("call " + which + " changed nothing", same && before != told(), false);
    }

    private void look(int which, int how, boolean yes) {
        int a = any(how);
        int b = any(how);
        int before = told();
        switch (which) {
            case 15: x.zoneOf(a, b); break;
            case 16: x.resourceOf(a, b); break;
            case 17: x.line(a, b, yes); break;
            case 18: x.worth(a, b); break;
            case 19: x.wants(a, b); break;
            case 20: x.level(a, b, yes); break;
            case 21: x.price(a); break;
            case 22: x.net(a); break;
            case 23: x.served(a); break;
            case 24: x.taken(a, b); break;
            case 25: x.binds(a); break;
            case 26: x.surplus(); break;
            case 27: x.rent(a); break;
            case 28: x.paid(a); break;
            case 29: x.charged(a); break;
            case 30: x.without(a, b); break;
            case 31: x.pivotal(a, b); break;
            case 32: x.wider(a, b, yes); break;
            case 33: x.needs(a); break;
            case 34: x.freely(a); break;
            case 35: x.gain(a, b, any(how)); break;
            default: x.best(a, b); break;
        }
        Check.due("call " + which + " only looks", told(), before);
    }

    /** All that is told, as one number. */
    private int told() {
        int h = x.count(3);
        for (int what = 0; what < 14; what++) {
            h = h * 31 + x.count(what);
        }
        for (int z = 0; z < x.count(0); z++) {
            for (int what = 0; what < 6; what++) {
                h = h * 31 + x.zoneOf(z, what);
            }
            for (int u = 1; u < 12; u++) {
                h = h * 31 + x.worth(z, u);
            }
        }
        for (int r = 0; r < x.count(1); r++) {
            for (int what = 0; what < 7; what++) {
                h = h * 31 + x.resourceOf(r, what);
            }
            for (int k = 0; k < 4; k++) {
                h = h * 31 + x.line(r, k, true) + 7 * x.line(r, k, false);
            }
        }
        return h * 31 + x.fault();
    }

    /** The most of everything: no number is beyond what holds it. */
    private static void largest() {
        ZoneCapacity x = new ZoneCapacity();
        for (int z = 0; z < 6; z++) {
            Check.due("zone", z == 0 || x.zone(z - 1, 9999, 9999) == z, true);
            for (int i = 0; i < 4; i++) {
                x.point(z, i == 3 ? 2000 : i + 1, 9999);
            }
        }
        for (int r = 0; r < 12; r++) {
            x.resource(r / 2, 500, r % 4, 0, true);
            x.step(r, 498, 0);
            x.step(r, 1, 1);
            x.step(r, 1, 9998);
        }
        Check.due("low", x.level(0, 0, false), -11999);
        Check.due("price", x.price(0), 9999);
        Check.due("served", x.served(0) + x.served(1) + x.served(2) + x.served(3) + x.served(4) + x.served(5), 6000);
        Check.due("paid", x.paid(100), 6000L * 9999);
        Check.due("surplus", x.surplus(), 6000L * 9999 - 12 - 12 * 9998);
        Check.due("needs", x.needs(1), 0);
        for (int r = 0; r < 12; r++) {
            x.drop(r, true);
            x.step(r, 500, 0);
        }
        x.drop(0, false);
        Check.due("price of the others", x.price(0), 9999);
        Check.due("net", x.net(1), -1000);
        x = new ZoneCapacity();
        for (int z = 1; z < 6; z++) {
            x.zone(z - 1, 9999, 9999);
            x.point(z, 2000, 9999);
        }
        for (int r = 0; r < 12; r++) {
            x.resource(0, 500, 0, 0, false);
            x.step(r, 500, 0);
        }
        Check.due("net of 10000 wanted", x.net(1), -6000);
        Check.due("needs one more than there are", x.needs(1), 6001);
    }
}
