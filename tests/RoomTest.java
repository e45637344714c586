import com.sun.management.ThreadMXBean;
import java.lang.management.ManagementFactory;

/** All calls of a run live in one room of some 600,000 objects, each of which is 16 bytes long at least. */
public final class RoomTest {
    private static final long ROOM = 600_000L * 16;
    private static final ThreadMXBean THREADS = (ThreadMXBean) ManagementFactory.getThreadMXBean();

    public static void main(String[] args) {
        run();
        long before = made();
        run();
        long bytes = made() - before;
        Due.holds("an object and 512 of the dearest calls make " + bytes + " bytes", bytes < ROOM);
        Due.end("RoomTest");
    }

    private static long made() {
        return THREADS.getThreadAllocatedBytes(Thread.currentThread().getId());
    }

    private static void run() {
        BrokenThree s = new BrokenThree();
        String yard = "long 17;cuts 3;hard 1 x=1&!(r>5|c=2);price 3 l>4";
        for (int i = 0; i < yard.length(); i++) {
            s.feed(yard.charAt(i));
        }
        s.yard();
        for (int kind = 0; kind < 6; kind++) {
            s.breaker(kind, 1);
        }
        s.see(3);
        s.see(5);
        s.see(7);
        s.see(2);
        for (int i = 1; i <= 10; i++) {
            s.box(i);
        }
        for (int i = 0; i < 30; i++) {
            s.likely(i % 6, i % 7, 3, 0);
            s.mean(i % 6, 1, 0);
            s.costs(i % 6, 0);
            s.until(3, 0);
            s.hidden(10, 3, 6, 0);
            s.none(1);
            s.sawn(6, 0);
            s.orders(0);
            s.chance(0, 0);
            s.lost(0);
            s.likeliest();
            s.act(4, 2, 1);
            s.image();
            s.undo();
        }
    }
}
