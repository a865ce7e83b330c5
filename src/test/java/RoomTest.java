import com.sun.management.ThreadMXBean;
import java.lang.management.ManagementFactory;

/** What a run makes is counted: an object is small, and its calls make nothing at all. */
public final class RoomTest {
    private static final ThreadMXBean THREADS = (ThreadMXBean) ManagementFactory.getThreadMXBean();

    public static void main(String[] args) {
        MeltingHeaps first = new MeltingHeaps();
        everyCall(first);
        long before = allocated();
        MeltingHeaps x = new MeltingHeaps();
        long made = allocated() - before;
        before = allocated();
        for (int round = 0; round < 8; round++) {
            everyCall(x);
        }
        long used = allocated() - before;
        Check.due("an object of " + made + " bytes is small", made < 40000, true);
        Check.due("calls that made " + used + " bytes make nothing", used < 4000, true);
        Check.end("RoomTest");
    }

    private static long allocated() {
        return THREADS.getThreadAllocatedBytes(Thread.currentThread().getId());
    }

    /** All calls, with SETS as full as they can be. */
    private static void everyCall(MeltingHeaps x) {
        x.feed(0x73657420, 0x3020302D, 0x35393B73, 0x65742031, 0x20302D35);
        x.feed(0x393B7365, 0x74203220, 0x302D3539, 0x3B736574, 0x20332030);
        x.feed(0x2D35393B, 0x20202020, 0x20202020, 0x20202020, 0x20202020);
        x.end(45);
        x.text();
        x.fault(0);
        x.drop(0, 5);
        x.put(0, 5);
        x.cut(0, 30, 4);
        x.join(0, 4);
        x.melt(0, 1);
        x.shift(0, 9);
        x.move(0, 0, 20, 1);
        x.mark(0, 0, 9999, false);
        x.seek(2, 10);
        x.seek(2, 50);
        x.undo();
        for (int what = 0; what <= 10; what++) {
            x.set(2, what);
            x.of(2, 9, what);
            x.count(what);
            x.pair(2, 3, what);
            x.cheapest(what);
        }
        x.key(2, 9);
        x.within(2, 0, 9, true);
        x.far(2, 0, 9);
        x.where(9);
        x.merged(150);
        x.would(2, 60, false);
        x.halves(2);
        x.tell(0);
        x.octet(0);
        x.image(0);
        x.again(0);
    }
}
