import com.sun.management.ThreadMXBean;
import java.lang.management.ManagementFactory;

/** All calls live in one room: no call makes an object, and an object's own room is small. */
public final class RoomTest {
    private RoomTest() {
    }

    public static void main(String[] args) {
        ThreadMXBean bean = (ThreadMXBean) ManagementFactory.getThreadMXBean();
        long id = Thread.currentThread().getId();
        run(new ZoneCapacity());
        bean.getThreadAllocatedBytes(id);
        long start = bean.getThreadAllocatedBytes(id);
        ZoneCapacity x = new ZoneCapacity();
        long made = bean.getThreadAllocatedBytes(id);
        run(x);
        long end = bean.getThreadAllocatedBytes(id);
        System.out.println("an object takes " + (made - start) + " bytes, its calls " + (end - made));
        Check.due("an object's room is small", made - start < 40000, true);
        Check.due("its calls' room is none", end - made < 2000, true);
        Check.finish();
    }

    private static void run(ZoneCapacity x) {
        for (int z = 0; z < 6; z++) {
            x.zone(z, 20, 20);
            x.point(z, 10, 500 + z);
            x.point(z, 20, 100);
        }
        for (int r = 0; r < 12; r++) {
            x.resource(r % 6, 20, r % 4, r % 6, r > 6);
            x.step(r, 5, r * 20);
            x.step(r, 5, r * 30);
        }
        x.keep(0);
        for (int i = 0; i < 20; i++) {
            x.feed(0x6365696c, 0x696e6720, 0x37373b20, 0x666c6f6f, 0x72203320);
            x.feed(0x353b2020, 0x20202020, 0x20202020, 0x20202020, 0x2020200a);
            x.tell();
            x.set(0, i % 4, i * 10);
            x.surplus();
            x.best(i % 12, 5);
            x.needs(1 + i % 5);
            x.wider(1 + i % 5, 3, true);
            x.pivotal(i % 6, i % 6);
            x.without(i % 12, 3);
            x.paid(100 + i % 6);
            x.level(i % 6, i, true);
        }
        x.back(0);
    }
}
