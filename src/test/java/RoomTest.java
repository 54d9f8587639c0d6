import java.lang.management.ManagementFactory;
import java.util.Random;

/** All calls of a run share one room: an object is small, and its calls make nothing. */
public final class RoomTest {
    private static final Check C = new Check("RoomTest");
    private static final com.sun.management.ThreadMXBean BEAN =
        (com.sun.management.ThreadMXBean) ManagementFactory.getThreadMXBean();

    private static long made() {
        return BEAN.getThreadAllocatedBytes(Thread.currentThread().getId());
    }

    /** The dearest calls, each after something that makes them begin anew. */
    private static int dear(LampWires x, Random r) {
        int l = r.nextInt(16);
        int sum = x.hurt(l, r.nextInt(3)) + x.turns(2) + x.shown(16) + x.frame(r.nextInt(65536));
        x.hurt(l, 0);
        sum += x.level(l, r.nextInt(16)) + x.plan(0) + x.light(l, 0) + x.uneven(0) + x.sets() + x.astray(l);
        sum += x.seen(r.nextInt(3), r.nextInt(65536)) + x.likely(1) + x.tells(0) + x.would(r.nextInt(729), 0, 3);
        sum += x.sheet(l % 4, l % 3, 40) + x.lay(l % 4, 1, 2) + x.levels(l % 4, l % 3, 0);
        sum += x.feed(0x6461726b20373b20L) + x.program() + x.round(1) + x.shows(l, 1) + x.at(l) + x.alone(l);
        return sum;
    }

    private static LampWires wide(Random r) {
        LampWires x = new LampWires();
        x.wires(6);
        x.supply(30);
        while (x.count(1) < 16) {
            x.lamp(r.nextInt(6), r.nextInt(6), 1 + r.nextInt(3));
        }
        Check.tell(x, "high 0 1 low 2 for 3;high 3 low 4 5 for 3;dark 2;");
        return x;
    }

    public static void main(String[] args) {
        Random r = new Random(7);
        LampWires x = wide(r);
        for (int i = 0; i < 4; i++) {
            dear(x, r);
        }
        made();
        long before = made();
        long nothing = made() - before;
        before = made();
        int sum = 0;
        for (int i = 0; i < 60; i++) {
            sum += dear(x, r);
        }
        long bytes = made() - before - nothing;
        C.holds("calls make nothing, not " + bytes + " bytes (" + sum + ")", bytes < 4096);
        before = made();
        LampWires one = new LampWires();
        bytes = made() - before;
        // 7.3 million elements are in the room; a hundredth of it is 73,000.
        C.holds("an object of " + bytes + " bytes is small" + one.count(1), bytes < 73_000);
        C.finish();
    }
}
