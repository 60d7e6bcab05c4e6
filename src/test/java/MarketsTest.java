import java.util.Random;

/**
 * Promises 1 and 6 to 36 on markets put together at random (the same ones every time): each call
 * has to answer what the slow Model answers.
 */
public final class MarketsTest {
    private final Random random;
    private final Renewed x = new Renewed();
    private final Model m = new Model();
    private final Model[] kept = new Model[2];
    private final String name;
    /** What the numbers go up to in this run. */
    private final int mostPrice;
    private final int mostUnits;
    private final int mostSize;
    private final int mostLimit;

    private MarketsTest(int seed) {
        random = new Random(seed);
        name = "run " + seed + ": ";
        int[] prices = {2, 6, 30, 300, 9999};
        int[] units = {2, 6, 30, 300, 2000};
        int scale = random.nextInt(5);
        mostPrice = prices[random.nextInt(5)];
        mostUnits = units[scale];
        mostSize = Math.min(500, units[scale]);
        mostLimit = random.nextBoolean() ? 9999 : units[scale] * (1 + random.nextInt(3));
    }

    public static void main(String[] args) {
        int first = args.length > 0 ? Integer.parseInt(args[0]) : 1;
        int last = args.length > 1 ? Integer.parseInt(args[1]) : 350;
        for (int seed = first; seed <= last && !Check.isWrong(); seed++) {
            new MarketsTest(seed).run();
        }
        Check.finish();
    }

    private void due(String call, long got, long want) {
        Check.due(name + call, got, want);
    }

    private static long number(boolean answer) {
        return answer ? 1 : 0;
    }

    /** From 0 to a number, now and then one outside. */
    private int upTo(int most) {
        int dice = random.nextInt(40);
        if (dice == 0) {
            return -1;
        }
        if (dice == 1) {
            return most + 1;
        }
        if (dice == 2) {
            return most;
        }
        return random.nextInt(most + 1);
    }

    private int anyZone() {
        return upTo(m.zones.size() - 1);
    }

    private int anyResource() {
        return m.resources.isEmpty() ? upTo(1) - 1 : upTo(m.resources.size() - 1);
    }

    private void run() {
        for (int i = 0; i < 50; i++) {
            change();
        }
        for (int round = 0; round < 3; round++) {
            for (int i = 0; i < 6; i++) {
                change();
            }
            lookAtWhatIsTold();
            lookAtWhatIsCleared();
            lookAtWhatWouldBe();
        }
        if (random.nextInt(6) == 0) {
            lookAtBest();
        }
    }

    private void change() {
        switch (random.nextInt(11)) {
            case 0:
            case 1: {
                int outer = random.nextBoolean() ? m.zones.size() - 1 : anyZone();
                int in = upTo(mostLimit);
                int out = upTo(mostLimit);
                due("zone", x.change(1, c -> c.zone(outer, in, out)), m.zone(outer, in, out));
                break;
            }
            case 2:
            case 3:
            case 4: {
                int z = anyZone();
                int units = upTo(mostUnits);
                int price = upTo(mostPrice);
                due("point", x.change(1, c -> c.point(z, units, price)), m.point(z, units, price));
                break;
            }
            case 5:
            case 6: {
                int z = anyZone();
                int size = upTo(mostSize);
                int kind = upTo(3);
                int owner = random.nextBoolean() ? random.nextInt(2) : upTo(5);
                boolean must = random.nextBoolean();
                due("resource", x.change(1, c -> c.resource(z, size, kind, owner, must)),
                        m.resource(z, size, kind, owner, must));
                break;
            }
            case 7:
            case 8:
            case 9: {
                int r = anyResource();
                int units = upTo(mostSize / 2 + 1);
                int price = upTo(mostPrice);
                due("step", x.change(1, c -> c.step(r, units, price)), m.step(r, units, price));
                break;
            }
            default:
                changeSeldom();
                break;
        }
    }

    private void changeSeldom() {
        int dice = random.nextInt(12);
        if (dice < 8) {
            int what = upTo(4);
            int most = what < 2 ? mostPrice : what < 4 ? mostLimit : 1;
            int k = what == 4 ? anyResource() : what == 0 ? upTo(3) : anyZone();
            int v = upTo(most);
            String call = "set(" + what + ", " + k + ", " + v + ")";
            due(call, x.change(1, c -> number(c.set(what, k, v))), number(m.set(what, k, v)));
            due(call + " again", x.change(1, c -> number(c.set(what, k, v))), number(m.set(what, k, v)));
        } else if (dice == 8) {
            boolean steps = random.nextBoolean();
            int which = steps ? anyResource() : anyZone();
            due("drop", x.change(1, c -> c.drop(which, steps)), m.drop(which, steps));
        } else if (dice < 11) {
            int slot = upTo(1);
            due("keep", x.change(1, c -> number(c.keep(slot))), number(slot == 0 || slot == 1));
            if (slot == 0 || slot == 1) {
                kept[slot] = m.copy();
            }
        } else {
            int slot = upTo(1);
            boolean there = (slot == 0 || slot == 1) && kept[slot] != null;
            due("back", x.change(1, c -> number(c.back(slot))), number(there));
            if (there) {
                m.takeAll(kept[slot]);
            }
        }
    }

    private void lookAtWhatIsTold() {
        due("count(0)", x.look().count(0), m.zones.size());
        due("count(1)", x.look().count(1), m.resources.size());
        due("count(2)", x.look().count(2), m.ceiling);
        for (int k = 0; k < 4; k++) {
            due("floor", x.look().count(10 + k), m.floors[k]);
        }
        for (int z = 0; z < m.zones.size(); z++) {
            Model.Zone zone = m.zones.get(z);
            due("outer", x.look().zoneOf(z, 0), zone.outer);
            due("in", x.look().zoneOf(z, 1), zone.in);
            due("out", x.look().zoneOf(z, 2), zone.out);
            due("points", x.look().zoneOf(z, 3), zone.points.size());
            due("wanted", x.look().zoneOf(z, 4), m.wanted(z));
            int bits = 0;
            for (int r = 0; r < m.resources.size(); r++) {
                bits += m.resources.get(r).zone == z ? 1 << r : 0;
            }
            due("resources", x.look().zoneOf(z, 5), bits);
        }
        for (int r = 0; r < m.resources.size(); r++) {
            Model.Resource it = m.resources.get(r);
            int[] due = {it.zone, it.size, it.kind, it.owner, it.must ? 1 : 0, it.free ? 1 : 0, it.steps.size()};
            for (int what = 0; what < due.length; what++) {
                due("resourceOf", x.look().resourceOf(r, what), due[what]);
            }
            for (int k = 0; k < 4; k++) {
                due("line", x.look().line(r, k, false), m.unitsOf(r, k));
                due("its", x.look().line(r, k, true), m.itsOf(r, k));
            }
        }
        for (int i = 0; i < 6; i++) {
            int z = anyZone();
            int u = upTo(mostUnits);
            due("worth(" + z + ", " + u + ")", x.look().worth(z, u), m.worth(z, u));
            int p = upTo(mostPrice);
            due("wants", x.look().wants(z, p), m.hasZone(z) && Model.in(p, 0, 9999) ? m.wants(z, p) : -1);
            due("level low", x.look().level(z, p, false), m.level(z, p, false));
            due("level high", x.look().level(z, p, true), m.level(z, p, true));
        }
    }

    private void lookAtWhatIsCleared() {
        m.clear();
        int many = m.zones.size();
        int[] price = m.price;
        int[] net = m.net;
        int[] served = m.served;
        for (int z = -1; z <= many; z++) {
            boolean is = z >= 0 && z < many;
            due("price(" + z + ")", x.look().price(z), is ? price[z] : -1);
            due("net(" + z + ")", x.look().net(z), is ? net[z] : -1000000);
            due("served(" + z + ")", x.look().served(z), is ? served[z] : -1);
            due("binds(" + z + ")", x.look().binds(z), is ? m.binds(z) : -1);
            due("rent(" + z + ")", x.look().rent(z), is ? m.rent(z) : Model.NO_NUMBER);
            due("charged(" + z + ")", x.look().charged(z), is ? (long) price[z] * served[z] : Model.NO_NUMBER);
        }
        due("surplus", x.look().surplus(), m.surplus());
        for (int r = -1; r <= m.resources.size(); r++) {
            due("paid(" + r + ")", x.look().paid(r), m.paid(r));
            for (int k = -2; k <= 4; k++) {
                due("taken(" + r + ", " + k + ")", x.look().taken(r, k), m.takenOf(r, k));
            }
        }
        for (int k = 99; k <= 106; k++) {
            due("paid(" + k + ")", x.look().paid(k), m.paid(k));
        }
    }

    private void lookAtWhatWouldBe() {
        for (int i = 0; i < 4; i++) {
            int z = anyZone();
            int r = anyResource();
            due("without", x.look().without(r, z), m.without(r, z));
            int owner = upTo(5);
            due("pivotal", x.look().pivotal(owner, z), m.pivotal(owner, z));
            int n = upTo(random.nextBoolean() ? mostLimit : 9999);
            boolean out = random.nextBoolean();
            due("wider", x.look().wider(z, n, out), m.wider(z, n, out));
            due("freely", x.look().freely(z), m.freely(z));
            int p = upTo(mostPrice);
            int cost = upTo(mostPrice);
            due("gain", x.look().gain(r, p, cost), m.gain(r, p, cost));
        }
        int z = anyZone();
        if (mostUnits <= 30 && m.zones.size() > 1 || z <= 0) {
            due("needs(" + z + ")", x.look().needs(z), m.needs(z));
        }
    }

    private void lookAtBest() {
        int r = anyResource();
        int cost = random.nextBoolean() ? upTo(mostPrice) : upTo(2500);
        due("best(" + r + ", " + cost + ")", x.look().best(r, cost), m.best(r, cost));
    }
}
