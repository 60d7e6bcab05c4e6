import java.util.ArrayList;
import java.util.List;
import java.util.regex.Matcher;
import java.util.regex.Pattern;

/**
 * The document once more, word by word and slowly: every unit stands by itself, prices and limits
 * are looked for one by one, a text is cut into tokens ahead of being told.
 */
final class Model {
    static final int NONE = -1;
    static final int NO_UNITS = -1000000;
    static final long NO_NUMBER = -1000000000000000L;

    static final class Zone {
        int outer;
        int in;
        int out;
        List<int[]> points = new ArrayList<>();

        Zone copy() {
            Zone z = new Zone();
            z.outer = outer;
            z.in = in;
            z.out = out;
            z.points = new ArrayList<>(points);
            return z;
        }
    }

    static final class Resource {
        int zone;
        int size;
        int kind;
        int owner;
        boolean must;
        boolean free;
        List<int[]> steps = new ArrayList<>();

        Resource copy() {
            Resource r = new Resource();
            r.zone = zone;
            r.size = size;
            r.kind = kind;
            r.owner = owner;
            r.must = must;
            r.free = free;
            r.steps = new ArrayList<>(steps);
            return r;
        }

        int offered() {
            int sum = 0;
            for (int[] s : steps) {
                sum += s[0];
            }
            return sum;
        }
    }

    List<Zone> zones = new ArrayList<>();
    List<Resource> resources = new ArrayList<>();
    int[] floors = new int[4];
    int ceiling = 9999;

    Model() {
        Zone z = new Zone();
        z.outer = NONE;
        zones.add(z);
    }

    Model copy() {
        Model m = new Model();
        m.takeAll(this);
        return m;
    }

    void takeAll(Model from) {
        List<Zone> z = new ArrayList<>();
        for (Zone each : from.zones) {
            z.add(each.copy());
        }
        List<Resource> r = new ArrayList<>();
        for (Resource each : from.resources) {
            r.add(each.copy());
        }
        zones = z;
        resources = r;
        floors = from.floors.clone();
        ceiling = from.ceiling;
    }

    // ---- what is told

    boolean hasZone(int z) {
        return z >= 0 && z < zones.size();
    }

    boolean hasResource(int r) {
        return r >= 0 && r < resources.size();
    }

    static boolean in(int v, int a, int b) {
        return a <= v && v <= b;
    }

    int zone(int outer, int in, int out) {
        if (zones.size() == 6 || !hasZone(outer) || !in(in, 0, 9999) || !in(out, 0, 9999)) {
            return NONE;
        }
        Zone z = new Zone();
        z.outer = outer;
        z.in = in;
        z.out = out;
        zones.add(z);
        return zones.size() - 1;
    }

    int point(int zone, int units, int price) {
        if (!hasZone(zone) || !in(units, 1, 2000) || !in(price, 0, 9999)) {
            return NONE;
        }
        List<int[]> points = zones.get(zone).points;
        if (points.size() == 4) {
            return NONE;
        }
        if (!points.isEmpty()) {
            int[] ahead = points.get(points.size() - 1);
            if (units <= ahead[0] || price > ahead[1]) {
                return NONE;
            }
        }
        points.add(new int[] {units, price});
        return points.size();
    }

    int resource(int zone, int size, int kind, int owner, boolean must) {
        if (resources.size() == 12 || !hasZone(zone) || !in(size, 1, 500) || !in(kind, 0, 3)
                || !in(owner, 0, 5)) {
            return NONE;
        }
        Resource r = new Resource();
        r.zone = zone;
        r.size = size;
        r.kind = kind;
        r.owner = owner;
        r.must = must;
        resources.add(r);
        return resources.size() - 1;
    }

    int step(int resource, int units, int price) {
        if (!hasResource(resource) || !in(units, 1, 500) || !in(price, 0, 9999)) {
            return NONE;
        }
        Resource r = resources.get(resource);
        if (r.steps.size() == 3 || r.offered() + units > r.size) {
            return NONE;
        }
        if (!r.steps.isEmpty() && price < r.steps.get(r.steps.size() - 1)[1]) {
            return NONE;
        }
        r.steps.add(new int[] {units, price});
        return r.steps.size();
    }

    int drop(int which, boolean steps) {
        if (steps ? !hasResource(which) : !hasZone(which)) {
            return NONE;
        }
        List<int[]> list = steps ? resources.get(which).steps : zones.get(which).points;
        int had = list.size();
        list.clear();
        return had;
    }

    boolean set(int what, int k, int v) {
        if (what == 0 && in(k, 0, 3) && in(v, 0, 9999) && floors[k] != v) {
            floors[k] = v;
            return true;
        }
        if (what == 1 && in(v, 0, 9999) && ceiling != v) {
            ceiling = v;
            return true;
        }
        if (what == 2 && hasZone(k) && k != 0 && in(v, 0, 9999) && zones.get(k).in != v) {
            zones.get(k).in = v;
            return true;
        }
        if (what == 3 && hasZone(k) && k != 0 && in(v, 0, 9999) && zones.get(k).out != v) {
            zones.get(k).out = v;
            return true;
        }
        if (what == 4 && hasResource(k) && in(v, 0, 1) && resources.get(k).free != (v == 1)) {
            resources.get(k).free = v == 1;
            return true;
        }
        return false;
    }

    int wanted(int zone) {
        List<int[]> points = zones.get(zone).points;
        return points.isEmpty() ? 0 : points.get(points.size() - 1)[0];
    }

    int unitsOf(int resource, int line) {
        Resource r = resources.get(resource);
        if (line == 3) {
            return r.must && r.size > r.offered() ? r.size - r.offered() : NONE;
        }
        return in(line, 0, r.steps.size() - 1) ? r.steps.get(line)[0] : NONE;
    }

    int itsOf(int resource, int line) {
        if (unitsOf(resource, line) == NONE) {
            return NONE;
        }
        if (line == 3) {
            return 0;
        }
        Resource r = resources.get(resource);
        int price = r.steps.get(line)[1];
        if (!r.free && floors[r.kind] > price) {
            price = floors[r.kind];
        }
        if (r.must && ceiling < price) {
            price = ceiling;
        }
        return price;
    }

    int worth(int zone, int u) {
        if (!hasZone(zone) || u < 1) {
            return NONE;
        }
        int[] ahead = null;
        for (int[] point : zones.get(zone).points) {
            if (u <= point[0]) {
                if (ahead == null) {
                    return point[1];
                }
                return ahead[1] - Math.floorDiv((ahead[1] - point[1]) * (u - ahead[0]), point[0] - ahead[0]);
            }
            ahead = point;
        }
        return NONE;
    }

    // ---- clearing

    int[] price;
    int[] net;
    int[] served;
    int[][] taken;
    /** How many units of a zone are worth each price. */
    private int[][] wantedAt;
    /** Whether HIGH of some zone can be another one at a price than at the one below. */
    private boolean[] matters;

    int wants(int zone, int p) {
        int n = 0;
        for (int u = 1; worth(zone, u) != NONE; u++) {
            if (worth(zone, u) >= p) {
                n++;
            }
        }
        return n;
    }

    private void countWants() {
        wantedAt = new int[zones.size()][10002];
        matters = new boolean[10000];
        matters[0] = true;
        for (int r = 0; r < resources.size(); r++) {
            for (int k = 0; k < 4; k++) {
                matters[Math.max(0, itsOf(r, k))] = true;
            }
        }
        for (int z = 0; z < zones.size(); z++) {
            for (int u = 1; u <= wanted(z); u++) {
                wantedAt[z][worth(z, u)]++;
                matters[worth(z, u)] = true;
            }
            for (int p = 10000; p >= 0; p--) {
                wantedAt[z][p] += wantedAt[z][p + 1];
            }
        }
    }

    int cut(int zone, int n) {
        Zone z = zones.get(zone);
        if (n < -z.in) {
            return -z.in;
        }
        return n > z.out ? z.out : n;
    }

    int low(int zone, int p) {
        int n = 0;
        for (int r = 0; r < resources.size(); r++) {
            for (int k = 0; k < 4; k++) {
                if (resources.get(r).zone == zone && unitsOf(r, k) != NONE && itsOf(r, k) < p) {
                    n += unitsOf(r, k);
                }
            }
        }
        n -= wantedAt[zone][p];
        for (int c = zone + 1; c < zones.size(); c++) {
            if (zones.get(c).outer == zone) {
                n += cut(c, low(c, p));
            }
        }
        return n;
    }

    int high(int zone, int p) {
        int n = 0;
        for (int r = 0; r < resources.size(); r++) {
            for (int k = 0; k < 4; k++) {
                if (resources.get(r).zone == zone && unitsOf(r, k) != NONE && itsOf(r, k) <= p) {
                    n += unitsOf(r, k);
                }
            }
        }
        n -= wantedAt[zone][p + 1];
        for (int c = zone + 1; c < zones.size(); c++) {
            if (zones.get(c).outer == zone) {
                n += cut(c, high(c, p));
            }
        }
        return n;
    }

    int level(int zone, int p, boolean high) {
        if (!hasZone(zone) || !in(p, 0, 9999)) {
            return NO_UNITS;
        }
        countWants();
        return high ? high(zone, p) : low(zone, p);
    }

    private int least(int zone, int n) {
        for (int p = 0; p <= 9999; p++) {
            if (matters[p] && high(zone, p) >= n) {
                return p;
            }
        }
        throw new IllegalStateException("no price clears zone " + zone);
    }

    void clear() {
        countWants();
        int many = zones.size();
        price = new int[many];
        net = new int[many];
        served = new int[many];
        taken = new int[resources.size()][4];
        for (int z = 0; z < many; z++) {
            int outer = zones.get(z).outer;
            if (z != 0 && low(z, price[outer]) <= net[z] && net[z] <= high(z, price[outer])) {
                price[z] = price[outer];
            } else {
                price[z] = least(z, net[z]);
            }
            part(z);
        }
    }

    private void part(int z) {
        int p = price[z];
        int left = net[z] - low(z, p);
        if (left < 0) {
            throw new IllegalStateException("less than nothing to part in zone " + z);
        }
        for (int r = 0; r < resources.size(); r++) {
            for (int k = 0; k < 4 && resources.get(r).zone == z; k++) {
                if (unitsOf(r, k) != NONE && itsOf(r, k) < p) {
                    taken[r][k] = unitsOf(r, k);
                } else if (unitsOf(r, k) != NONE && itsOf(r, k) == p) {
                    taken[r][k] = Math.min(left, unitsOf(r, k));
                    left -= taken[r][k];
                }
            }
        }
        for (int c = z + 1; c < zones.size(); c++) {
            if (zones.get(c).outer == z) {
                int from = cut(c, low(c, p));
                int upTo = cut(c, high(c, p));
                net[c] = Math.min(upTo, from + left);
                left -= net[c] - from;
            }
        }
        served[z] = wantedAt[z][p] - left;
        if (served[z] < wantedAt[z][p + 1]) {
            throw new IllegalStateException("a unit worth more than the price is not served in " + z);
        }
    }

    int priceOf(int zone) {
        clear();
        return price[zone];
    }

    int takenOf(int resource, int line) {
        if (!hasResource(resource) || line != NONE && (line < 0 || line > 3 || unitsOf(resource, line) == NONE)) {
            return NONE;
        }
        clear();
        int sum = 0;
        for (int k = 0; k < 4; k++) {
            sum += line == NONE || line == k ? taken[resource][k] : 0;
        }
        return sum;
    }

    int binds(int zone) {
        clear();
        if (zone == 0) {
            return 0;
        }
        Zone z = zones.get(zone);
        if (net[zone] == -z.in && price[zone] > price[z.outer]) {
            return 1;
        }
        return net[zone] == z.out && price[zone] < price[z.outer] ? 2 : 0;
    }

    long surplus() {
        clear();
        long sum = 0;
        for (int z = 0; z < zones.size(); z++) {
            for (int u = 1; u <= served[z]; u++) {
                sum += worth(z, u);
            }
        }
        for (int r = 0; r < resources.size(); r++) {
            for (int k = 0; k < 4; k++) {
                sum -= (long) taken[r][k] * Math.max(0, itsOf(r, k));
            }
        }
        return sum;
    }

    long rent(int zone) {
        clear();
        return zone == 0 ? 0 : (long) net[zone] * (price[zones.get(zone).outer] - price[zone]);
    }

    long paid(int k) {
        if (!hasResource(k) && !in(k, 100, 105)) {
            return NO_NUMBER;
        }
        clear();
        long sum = 0;
        for (int r = 0; r < resources.size(); r++) {
            if (r == k || resources.get(r).owner == k - 100) {
                for (int units : taken[r]) {
                    sum += (long) units * price[resources.get(r).zone];
                }
            }
        }
        return sum;
    }

    // ---- what would be

    private static void takeAway(Resource r) {
        r.must = false;
        r.steps.clear();
    }

    int without(int resource, int zone) {
        if (!hasResource(resource) || !hasZone(zone)) {
            return NONE;
        }
        Model m = copy();
        takeAway(m.resources.get(resource));
        return m.priceOf(zone);
    }

    int pivotal(int owner, int zone) {
        if (!in(owner, 0, 5) || !hasZone(zone)) {
            return NONE;
        }
        Model m = copy();
        for (Resource r : m.resources) {
            if (r.owner == owner) {
                takeAway(r);
            }
        }
        return m.priceOf(zone) > ceiling && !(priceOf(zone) > ceiling) ? 1 : 0;
    }

    long wider(int zone, int n, boolean out) {
        if (!hasZone(zone) || zone == 0 || !in(n, 1, 9999)) {
            return NO_NUMBER;
        }
        Model m = copy();
        Zone z = m.zones.get(zone);
        if (out) {
            z.out = Math.min(9999, z.out + n);
        } else {
            z.in = Math.min(9999, z.in + n);
        }
        return m.surplus() - surplus();
    }

    int needs(int zone) {
        if (!hasZone(zone) || zone == 0) {
            return NONE;
        }
        Model m = copy();
        for (int n = 0; n <= 9999; n++) {
            m.zones.get(zone).in = n;
            m.clear();
            if (m.price[zone] <= m.price[zones.get(zone).outer]) {
                return n;
            }
        }
        return NONE;
    }

    int freely(int zone) {
        if (!hasZone(zone)) {
            return NONE;
        }
        Model m = copy();
        m.floors = new int[4];
        return m.priceOf(zone);
    }

    long gain(int resource, int p, int cost) {
        if (!hasResource(resource) || !in(p, 0, 9999) || !in(cost, 0, 9999)) {
            return NO_NUMBER;
        }
        Model m = copy();
        Resource r = m.resources.get(resource);
        r.steps.clear();
        r.steps.add(new int[] {r.size, p});
        int units = m.takenOf(resource, NONE);
        return (long) units * (m.price[r.zone] - cost);
    }

    int best(int resource, int cost) {
        if (!hasResource(resource) || !in(cost, 0, 9999)) {
            return NONE;
        }
        int best = 0;
        for (int p = 25; p <= 2500; p += 25) {
            if (gain(resource, p, cost) > gain(resource, best, cost)) {
                best = p;
            }
        }
        return best;
    }

    // ---- texts

    private static final Pattern TOKEN = Pattern.compile("[a-z]+|[0-9]+|;|[^ \n]");

    int fault = 0;
    private List<String> tokens;
    private List<Integer> places;
    private int at;

    private static final class Fault extends RuntimeException {
        private static final long serialVersionUID = 1L;
        final int told;

        Fault(int kind, int place) {
            told = kind + 8 * place;
        }
    }

    int tell(String text) {
        tokens = new ArrayList<>();
        places = new ArrayList<>();
        Matcher m = TOKEN.matcher(text);
        while (m.find()) {
            tokens.add(m.group());
            places.add(m.start());
        }
        tokens.add("");
        places.add(text.length());
        at = 0;
        fault = 0;
        Model before = copy();
        int statements = 0;
        try {
            while (!tokens.get(at).isEmpty()) {
                statement();
                statements++;
            }
        } catch (Fault f) {
            takeAll(before);
            fault = f.told;
            return NONE;
        }
        return statements;
    }

    private Fault here(int kind) {
        return new Fault(kind, places.get(at));
    }

    private void statement() {
        int word = places.get(at);
        String what = tokens.get(at);
        if (what.equals("zone") && zones.size() == 6) {
            throw here(3);
        }
        if (what.equals("resource") && resources.size() == 12) {
            throw here(3);
        }
        at++;
        switch (what) {
            case "zone": {
                int outer = number(0, zones.size() - 1);
                int in = number(0, 9999);
                int out = number(0, 9999);
                zone(outer, in, out);
                break;
            }
            case "curve": {
                int z = number(0, zones.size() - 1);
                drop(z, false);
                pairs(z, false);
                break;
            }
            case "resource": {
                int z = number(0, zones.size() - 1);
                int size = number(1, 500);
                int kind = number(0, 3);
                int owner = number(0, 5);
                boolean must = tokens.get(at).equals("must");
                at += must ? 1 : 0;
                int r = resource(z, size, kind, owner, must);
                if (tokens.get(at).equals("free")) {
                    resources.get(r).free = true;
                    at++;
                }
                break;
            }
            case "offer": {
                int r = number(0, resources.size() - 1);
                drop(r, true);
                pairs(r, true);
                break;
            }
            case "floor": {
                int kind = number(0, 3);
                floors[kind] = number(0, 9999);
                break;
            }
            case "ceiling":
                ceiling = number(0, 9999);
                break;
            case "limits": {
                int z = number(1, zones.size() - 1);
                zones.get(z).in = number(0, 9999);
                zones.get(z).out = number(0, 9999);
                break;
            }
            default:
                at--;
                throw here(1);
        }
        if (!tokens.get(at).equals(";")) {
            throw here(1);
        }
        at++;
        if (what.equals("offer")) {
            for (Resource r : resources) {
                if (r.offered() > r.size) {
                    throw new Fault(4, word);
                }
            }
        }
    }

    private void pairs(int which, boolean steps) {
        List<int[]> list = steps ? resources.get(which).steps : zones.get(which).points;
        while (tokens.get(at).matches("[0-9]+")) {
            if (list.size() == (steps ? 3 : 4)) {
                throw here(3);
            }
            int[] ahead = list.isEmpty() ? null : list.get(list.size() - 1);
            int units;
            int p;
            if (steps) {
                units = number(1, 500);
                p = number(ahead == null ? 0 : ahead[1], 9999);
            } else {
                units = number(ahead == null ? 1 : ahead[0] + 1, 2000);
                p = number(0, ahead == null ? 9999 : ahead[1]);
            }
            list.add(new int[] {units, p});
        }
    }

    private int number(int least, int most) {
        if (!tokens.get(at).matches("[0-9]{1,4}")) {
            throw here(1);
        }
        int n = Integer.parseInt(tokens.get(at));
        if (n < least || n > most) {
            throw here(2);
        }
        at++;
        return n;
    }
}
