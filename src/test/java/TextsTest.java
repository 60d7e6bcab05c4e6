import java.util.Random;

/**
 * Promises 2 to 5 and the texts of the terms, on texts put together at random (the same ones every
 * time), most of them spoilt in some place: each has to be told as the slow Model tells it.
 */
public final class TextsTest {
    private final Random random;
    private final Renewed x = new Renewed();
    private final Model m = new Model();
    private StringBuilder text;

    private TextsTest(int seed) {
        random = new Random(seed);
    }

    public static void main(String[] args) {
        int last = args.length > 0 ? Integer.parseInt(args[0]) : 6000;
        for (int seed = 1; seed <= last && !Check.isWrong(); seed++) {
            TextsTest test = new TextsTest(seed);
            for (int i = 0; i < 8; i++) {
                test.tellOne(seed);
            }
        }
        Check.finish();
    }

    private void tellOne(int seed) {
        text = new StringBuilder();
        int statements = random.nextInt(12);
        for (int i = 0; i < statements; i++) {
            statement();
        }
        for (int i = random.nextInt(4); i > 1; i--) {
            spoil();
        }
        if (text.length() > 500) {
            text.setLength(random.nextBoolean() ? 500 : text.lastIndexOf(";", 499) + 1);
        }
        String told = text.toString();
        String name = "run " + seed + ", text [" + told + "] ";
        int calls = (told.length() + 19) / 20 + 2;
        Check.due(name + "tell", x.change(calls, c -> Check.tell(c, told)), m.tell(told));
        Check.due(name + "fault", x.look().fault(), m.fault);
        Check.due(name + "tape", x.look().count(3), 0);
        compare(name);
    }

    private void compare(String name) {
        Check.due(name + "count(0)", x.look().count(0), m.zones.size());
        Check.due(name + "count(1)", x.look().count(1), m.resources.size());
        Check.due(name + "count(2)", x.look().count(2), m.ceiling);
        for (int k = 0; k < 4; k++) {
            Check.due(name + "floor", x.look().count(10 + k), m.floors[k]);
        }
        for (int z = 0; z < m.zones.size() && z < x.look().count(0); z++) {
            Model.Zone zone = m.zones.get(z);
            Check.due(name + "outer", x.look().zoneOf(z, 0), zone.outer);
            Check.due(name + "in", x.look().zoneOf(z, 1), zone.in);
            Check.due(name + "out", x.look().zoneOf(z, 2), zone.out);
            Check.due(name + "points", x.look().zoneOf(z, 3), zone.points.size());
            for (int[] point : zone.points) {
                Check.due(name + "worth", x.look().worth(z, point[0]), point[1]);
            }
        }
        for (int r = 0; r < m.resources.size() && r < x.look().count(1); r++) {
            Model.Resource it = m.resources.get(r);
            int[] due = {it.zone, it.size, it.kind, it.owner, it.must ? 1 : 0, it.free ? 1 : 0, it.steps.size()};
            for (int what = 0; what < due.length; what++) {
                Check.due(name + "resourceOf", x.look().resourceOf(r, what), due[what]);
            }
            for (int k = 0; k < 4; k++) {
                Check.due(name + "line", x.look().line(r, k, false), m.unitsOf(r, k));
                Check.due(name + "its", x.look().line(r, k, true), m.itsOf(r, k));
            }
        }
    }

    private void statement() {
        switch (random.nextInt(8)) {
            case 0:
                word("zone").number(m.zones.size() - 1).number(99).number(9999);
                break;
            case 1:
            case 2:
                word("curve").number(m.zones.size() - 1);
                curve();
                break;
            case 3:
                word("resource").number(m.zones.size() - 1).number(1, 500).number(3).number(5);
                if (random.nextBoolean()) {
                    word("must");
                }
                if (random.nextInt(3) == 0) {
                    word("free");
                }
                break;
            case 4:
            case 5:
                word("offer").number(Math.max(0, m.resources.size() - 1));
                offer();
                break;
            case 6:
                if (random.nextBoolean()) {
                    word("floor").number(3).number(9999);
                } else {
                    word("ceiling").number(9999);
                }
                break;
            default:
                word("limits").number(1, Math.max(1, m.zones.size() - 1)).number(50).number(50);
                break;
        }
        text.append(';');
        blanks(0);
    }

    private void curve() {
        int units = 0;
        int price = 99;
        for (int i = random.nextInt(6); i > 0 && units < 1999; i--) {
            units += 1 + random.nextInt(random.nextInt(10) == 0 ? 1500 : 9);
            price -= random.nextInt(random.nextInt(10) == 0 ? 99 : 9);
            number(units, units).number(Math.max(0, price), Math.max(0, price));
        }
    }

    private void offer() {
        int price = 0;
        for (int i = random.nextInt(5); i > 0; i--) {
            price += random.nextInt(9);
            int units = 1 + random.nextInt(random.nextInt(6) == 0 ? 500 : 60);
            number(units, units).number(price, price);
        }
    }

    private TextsTest word(String word) {
        text.append(word);
        blanks(0);
        return this;
    }

    private TextsTest number(int most) {
        return number(0, most);
    }

    private TextsTest number(int least, int most) {
        int n = least + random.nextInt(most - least + 1);
        if (random.nextInt(200) == 0) {
            n = random.nextBoolean() ? most + 1 : Math.max(0, least - 1);
        }
        if (text.length() > 0 && Character.isDigit(text.charAt(text.length() - 1))) {
            blanks(1);
        }
        String digits = Integer.toString(n);
        if (random.nextInt(20) == 0) {
            digits = "0".repeat(Math.max(0, 4 - digits.length())) + digits;
        }
        text.append(digits);
        return this;
    }

    private void blanks(int least) {
        int many = random.nextInt(5) == 0 ? 2 : random.nextInt(3) == 0 ? 1 : 0;
        for (int i = Math.max(least, many); i > 0; i--) {
            text.append(random.nextInt(4) == 0 ? '\n' : ' ');
        }
    }

    private void spoil() {
        int at = random.nextInt(text.length() + 1);
        String signs = "019;; \nazmZ{`/:-\t\u00e9\u0000";
        char sign = signs.charAt(random.nextInt(signs.length()));
        switch (random.nextInt(3)) {
            case 0:
                text.insert(at, sign);
                break;
            case 1:
                if (at < text.length()) {
                    text.deleteCharAt(at);
                }
                break;
            default:
                if (at < text.length()) {
                    text.setCharAt(at, sign);
                }
                break;
        }
    }
}
