import java.lang.management.ManagementFactory;

/** All calls of a run live in one room: no call makes an object, and a new one is no larger than it must be. */
public final class RoomTest {
    private static final Due DUE = new Due();
    private static final com.sun.management.ThreadMXBean BEAN = (com.sun.management.ThreadMXBean) ManagementFactory.getThreadMXBean();
    private static long sum;

    public static void main(String[] args) {
        PoliteHall warm = largest();
        dearCalls(warm, 0);
        long before = BEAN.getCurrentThreadAllocatedBytes();
        PoliteHall x = largest();
        long made = BEAN.getCurrentThreadAllocatedBytes();
        for (int i = 0; i < 16; i++) {
            dearCalls(x, i);
        }
        long after = BEAN.getCurrentThreadAllocatedBytes();
        System.out.println("a new object: " + (made - before) + " bytes; its calls: " + (after - made) + " bytes");
        DUE.holds("a new object is small", made - before < 400_000);
        DUE.holds("calls make nothing", after - made < 2_000);
        DUE.holds("answers came", sum != 0);
        DUE.end();
    }

    private static PoliteHall largest() {
        PoliteHall x = new PoliteHall();
        for (int i = 0; i < 12; i++) {
            x.machine(i % 6, 5 + i, 1 + i % 9);
        }
        for (int i = 0; i < 12; i++) {
            for (int k = 1; k < 5; k++) {
                x.tie(i, (i + k) % 12, k);
            }
        }
        return x;
    }

    private static void dearCalls(PoliteHall x, int i) {
        sum += x.say(i % 12, (i + 1) % 12, true) + x.many() + x.blame(1) + x.sure(1) + x.leads(0);
        sum += x.known() + x.pair(0) + x.more() + x.without(0, 1) + x.next(0) + x.rounds() + x.likely();
        sum += x.chance(3, 1) + x.worst(3, 1) + x.worst(0, 0) + x.mend(50) + x.voice(4, 2, i) + x.image() + x.restore();
        x.feed(0x3120_7473_6f6dL, 6);
        sum += x.text() + x.most(12) + x.tell(i) + x.check() + x.unsay(x.count(2) - 1);
    }
}
