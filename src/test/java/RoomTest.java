import com.sun.management.ThreadMXBean;
import java.lang.management.ManagementFactory;

/** The one room: a new object takes little of it, and calls take none. */
public final class RoomTest {
    private static final ThreadMXBean ROOM = (ThreadMXBean) ManagementFactory.getThreadMXBean();
    private static final int TIMES = 1000;
    private static final int MOST_BYTES_EACH = 12000;

    private static long taken() {
        return ROOM.getThreadAllocatedBytes(Thread.currentThread().getId());
    }

    private static int calls(NineWells x) {
        int sum = x.well() + x.going(0, 1, 5) + x.set(1, 0, 9) + x.ofWell(1, 4) + x.sheet(0, 8, 4) + x.put(0, 1, 3) + x.goings(0);
        sum += x.thing(5, 2) + x.ofThing(0, 6) + x.as(0, 5) + x.let(0, 0) + x.fish(0) + x.let(0, 0) + x.feed(0x316B2B77L, 3) + x.text(0) + x.feed('(', 1) + x.text(1);
        sum += x.law(0, 1, 2, 3, 4) + x.days(1) + x.floods(1) + x.then(200, 0, 3) + x.in(200, 1) + x.seen(200, 0, 1) + x.round(0, 1);
        sum += x.soon(0, 1, 50) + x.cheap(0, 1, 50) + x.rings(0) + x.rings(1) + x.meet(0, 1) + x.tenth() + x.find(0, 1, 5) + x.agrees(0) + x.belows(0, 5, 0);
        sum += x.cork(0, 5, 99, 1) + x.forget() + x.seed(5) + x.voice(0, 3, 7) + x.trace(1) + x.sheet(1, 8, 9) + x.move(0, 0, 1, 1, 3) + x.tell(1) + x.check(0);
        return sum + x.count(3) + x.told(1) + x.told(9) + x.image() + x.restore();
    }

    private static NineWells ready() {
        NineWells x = new NineWells();
        for (int i = 0; i < 9; i++) x.well();
        for (int i = 0; i < 10; i++) x.thing(i % 7, i);
        for (int i = 0; i < 10; i++) x.let(i, i % 9);
        return x;
    }

    public static void main(String[] args) {
        NineWells x = ready();
        int sum = calls(x);
        taken();
        long ahead = taken();
        for (int i = 0; i < TIMES; i++) sum += calls(x);
        long forCalls = taken() - ahead;
        ahead = taken();
        for (int i = 0; i < TIMES; i++) sum += new NineWells().count(8);
        long forEach = (taken() - ahead) / TIMES;
        System.out.println("a new object takes " + forEach + " bytes, " + TIMES + " rounds of calls " + forCalls + " (" + sum + ")");
        int failed = (forCalls > TIMES ? 1 : 0) + (forEach > MOST_BYTES_EACH ? 1 : 0);
        System.out.println("RoomTest: " + (2 - failed) + " passed, " + failed + " failed");
        if (failed != 0) System.exit(1);
    }
}
