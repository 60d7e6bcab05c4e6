/** Markets that the tests of edges begin with. */
final class Markets {
    private Markets() {
    }

    /** ZONE 0 alone: nothing offered, nothing wanted. */
    static void empty(ZoneCapacity x) {
        Check.due("zones of a new object", x.count(0), 1);
    }

    /**
     * Three zones, 0, 1 in 0, 2 in 1; three resources, two of them with steps; something else kept in
     * slots 0 and 1; a fault, and a statement on the tape.
     */
    static void ordinary(ZoneCapacity x) {
        x.zone(0, 4, 5);
        x.point(0, 2, 30);
        x.point(1, 3, 50);
        x.keep(0);
        x.zone(1, 3, 2);
        x.point(0, 6, 10);
        x.resource(0, 10, 1, 0, false);
        x.step(0, 3, 5);
        x.keep(1);
        x.step(0, 4, 9);
        x.point(2, 5, 40);
        x.resource(1, 6, 2, 1, true);
        x.step(1, 4, 12);
        x.resource(2, 4, 3, 2, false);
        x.set(0, 1, 7);
        x.set(1, 0, 11);
        x.set(4, 1, 1);
        Check.tell(x, "ceiling 1; x");
        Check.put(x, "ceiling 44;");
    }

    /** All there may be: 6 zones, each with 4 points, 12 resources, each with 3 steps. */
    static void full(ZoneCapacity x) {
        for (int z = 1; z < 6; z++) {
            x.zone(z - 1, 9, 9);
        }
        for (int z = 0; z < 6; z++) {
            for (int i = 1; i <= 4; i++) {
                x.point(z, i, 50 - 10 * i + z);
            }
        }
        for (int r = 0; r < 12; r++) {
            x.resource(r / 2, 10, r % 4, r / 2, r < 6);
            for (int i = 0; i < 3; i++) {
                x.step(r, 2, 10 * i + r);
            }
        }
        x.keep(1);
    }
}
