import java.lang.management.ManagementFactory;

/** What a run makes: all rows are made with the object, and no call makes more. */
public final class RoomTest {
    private static final com.sun.management.ThreadMXBean ROOM =
        (com.sun.management.ThreadMXBean) ManagementFactory.getThreadMXBean();
    /** Some 6000 numbers of four bytes, and the heads of some 200 objects and arrays. */
    private static final long OBJECT_MOST = 30000;
    private static final int TIMES = 2000;

    private static int sum = 0;

    public static void main(String[] args) {
        GossipArches x = Check.made(Check.QUARTER);
        // what the machine makes for itself at first is not counted
        callAll(x);
        long before = made();
        for (int i = 0; i < TIMES; i++) {
            callAll(x);
        }
        long calls = (made() - before) / TIMES;
        Check.holds("calls make nothing, but made " + calls, calls == 0);
        before = made();
        GossipArches[] many = new GossipArches[TIMES];
        for (int i = 0; i < TIMES; i++) {
            many[i] = new GossipArches();
        }
        long each = (made() - before) / TIMES;
        Check.holds("an object is small, but has " + each, each < OBJECT_MOST && many[TIMES - 1].told(1) == 0);
        Check.holds("the calls answered", sum != 1);
        Check.end();
    }

    private static long made() {
        return ROOM.getThreadAllocatedBytes(Thread.currentThread().getId());
    }

    private static void callAll(GossipArches x) {
        x.letIn(7);
        x.crack(1, 5);
        x.gate(3, true);
        x.hour(3);
        x.drift(3);
        x.clear(0);
        sum += x.hears(255, 5) + x.soonest(255, 5) + x.gates(5, 0, 4) + x.cut(5, 0, 0) + x.meet(0, 1, 3);
        sum += x.longest(5) + x.ways(5) + x.firstBlocked() + x.share(1) + x.frost(60, 1);
        sum += x.drip(5, 0, 12) + x.cracked(5) + x.listen(5) + x.write(0, 0) + x.judge() + x.tear();
        x.undo();
        x.empty();
        x.keep(0);
        x.goBack(0);
        for (int i = 0; i < Check.QUARTER.length(); i++) {
            x.feed(Check.QUARTER.charAt(i));
        }
        sum += x.works() + x.fault() + x.told(7) + x.place(0, 2) + x.channel(0, 3) + x.first(0, 0) + x.seed(1);
    }
}
