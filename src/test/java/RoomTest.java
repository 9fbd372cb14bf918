import java.lang.management.ManagementFactory;

/** The room: what a new object takes, and that no call takes any more. */
public final class RoomTest {
    private static final int OBJECTS = 2000;
    /** 7.3 million elements for a run leave this much and more for one of at most 512 objects. */
    private static final long BYTES_AN_OBJECT = 14000L * 4;

    public static void main(String[] args) {
        com.sun.management.ThreadMXBean bean =
                (com.sun.management.ThreadMXBean) ManagementFactory.getThreadMXBean();
        FeltHouse[] all = new FeltHouse[OBJECTS];
        all[0] = new FeltHouse();
        callAll(all[0]);
        long start = bean.getCurrentThreadAllocatedBytes();
        for (int i = 0; i < OBJECTS; i++) {
            all[i] = new FeltHouse();
        }
        long made = bean.getCurrentThreadAllocatedBytes();
        for (int i = 0; i < OBJECTS; i++) {
            callAll(all[i]);
        }
        long called = bean.getCurrentThreadAllocatedBytes();
        System.out.println((made - start) / OBJECTS + " bytes an object, " + (called - made) + " bytes for "
                + OBJECTS + " times all calls");
        Check.holds("an object is small", (made - start) / OBJECTS < BYTES_AN_OBJECT);
        Check.holds("calls make no objects", called - made < OBJECTS * 8L);
        Check.end();
    }

    private static void callAll(FeltHouse x) {
        for (int p = 0; p < 20; p++) {
            x.part(p % 7, p % 8, 40, p);
        }
        for (int c = 0; c < 6; c++) {
            x.camp(9 * c);
            x.beast(20 * c + 1);
            x.grass(c, c, 100);
        }
        x.of(1, 9);
        x.set(1, 2, 30);
        x.want(1, true);
        x.as(5, 4);
        x.sky(0, 3);
        x.draw(22);
        x.age(2);
        x.side(0, 2);
        x.stands();
        x.first();
        x.gust();
        x.canWant();
        x.span(0);
        x.worst();
        x.warmth(1);
        x.idle();
        x.cap(1);
        x.beasts(0xffc00);
        x.even(0xffc00, 1);
        x.campOf(0, 0);
        x.herd(0, 90);
        x.year(3, 24, 5);
        x.moves(3, 24);
        x.image();
        x.feed(0x64726177, 4);
        x.feed(0x2037, 2);
        x.house();
        x.wipe();
        x.undo();
        x.sheet(0, 16, 12);
        x.write(0, 0, 5);
        x.copy(0, 0, 0, 1, 5);
        x.lays(0, 0);
        x.costs(0, 0);
        x.read(0);
        x.tear();
        x.count(5);
        x.status(-1);
    }
}
