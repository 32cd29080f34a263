import java.lang.management.ManagementFactory;

/** The dearest calls on the largest town: they end soon, and make no objects. */
public final class RoomTest {
    private static final Due due = new Due();
    private static int sink;

    public static void main(String[] args) {
        due.part("the largest town");
        WaterTown first = large();
        due.is("pipes", first.count(1), 20);
        due.is("streets", first.count(2), 10);
        due.is("six can be ordered", first.order(126, -1) >= 0 ? 1 : 0, 1);
        dearestCalls(first);
        due.is("NOW", first.count(0), 4800);
        com.sun.management.ThreadMXBean threads = (com.sun.management.ThreadMXBean) ManagementFactory.getThreadMXBean();
        long thread = Thread.currentThread().getId();
        long start = threads.getThreadAllocatedBytes(thread);
        WaterTown x = large();
        long made = threads.getThreadAllocatedBytes(thread);
        dearestCalls(x);
        long end = threads.getThreadAllocatedBytes(thread);
        due.part("room");
        due.is("bytes of a new object and its parts: " + (made - start), made - start < 60000 ? 1 : 0, 1);
        due.is("bytes that its dearest calls made: " + (end - made), end - made < 4000 ? 1 : 0, 1);
        due.end();
        if (sink == 1) System.out.println();
    }

    private static WaterTown large() {
        WaterTown x = new WaterTown();
        x.pump(0, 23, 3000);
        for (int p = 0; p < 20; p++) {
            x.pipe((p * 3 + 1) % 10, (p * 7 + 2) % 10 == (p * 3 + 1) % 10 ? (p + 5) % 10 : (p * 7 + 2) % 10, 40 + 13 * p, 3 + p % 7);
            x.guess(p, 1 + p % 5);
        }
        for (int p = x.count(1); p < 20; p++) {
            x.pipe(p % 9, 9, 70, 2);
        }
        for (int s = 0; s < 10; s++) {
            x.street(s, 20 + s, 3, 5, 100 * s, s < 7 ? 0 : 1);
        }
        return x;
    }

    private static void dearestCalls(WaterTown x) {
        feed(x);
        for (int k = 0; k < 24; k++) {
            sink += x.go(200);
        }
        for (int k = 0; k < 40; k++) {
            sink += x.beside(k % 10, 20 * k);
            x.rooms(0, k);
            sink += x.order(63 << k % 2, k % 6);
            x.pump(k % 24, k % 24, 2000 + k);
            sink += x.beds(3, 99, 1 + k % 3, 150 + k % 7, 20, k % 20);
            x.gauge((1 << 20) - 1, 20);
            sink += x.explain(0);
            sink += x.draw(k % 10, k % 24, 2) + x.wrong() + x.cuts(k, 1);
        }
    }

    private static void feed(WaterTown x) {
        byte[] text = {'f', 'i', 'r', 's', 't', ' ', 'f', 'a', 'r', ',', 's', 'm', 'a', 'l', 'l', ';'};
        for (byte b : text) {
            x.feed(1, b);
        }
        sink += x.rule(3);
    }
}
