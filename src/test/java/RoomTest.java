import com.sun.management.ThreadMXBean;
import java.lang.management.ManagementFactory;

/** All calls of a run share one room: an object's rows are made with it, and no call makes more. */
final class RoomTest {
    private static final int OBJECTS = 30;
    /** An object is used for 512 calls at most, and a round has some 75. */
    private static final int ROUNDS = 6;

    public static void main(String[] args) {
        ThreadMXBean threads = (ThreadMXBean) ManagementFactory.getThreadMXBean();
        MinuteSignal[] objects = new MinuteSignal[OBJECTS];
        for (int i = 0; i < OBJECTS; i++) {
            objects[i] = new MinuteSignal();
        }
        useAll(new MinuteSignal());
        long before = threads.getCurrentThreadAllocatedBytes();
        long sum = 0;
        for (MinuteSignal x : objects) {
            for (int i = 0; i < ROUNDS; i++) {
                sum += useAll(x);
            }
        }
        long made = threads.getCurrentThreadAllocatedBytes() - before;
        Due.isTrue("calls were made, " + sum, sum != 0);
        // the reading itself may make a little
        Due.isTrue("rounds of all calls on " + OBJECTS + " objects make nothing, not " + made + " bytes", made < 4096);
        before = threads.getCurrentThreadAllocatedBytes();
        MinuteSignal y = new MinuteSignal();
        made = threads.getCurrentThreadAllocatedBytes() - before;
        Due.isTrue("an object's rows stay small, " + made + " bytes", y.count(0) == 0 && made < 80000);
        Due.end();
    }

    private static long useAll(MinuteSignal x) {
        long sum = x.count(0) > 0 ? x.loses(x.count(0)) : 0;
        for (int minute = 118; minute < 124; minute++) {
            sum += x.frames(x.bits(minute, 1, 0, 0), 0);
        }
        sum += x.sets() + x.goes(999) + x.needs(3) + x.drifts(5) + x.symbol(5);
        for (int what = 0; what <= 10; what++) {
            sum += x.vote(what) + x.read(3, what) + x.clock(what) + x.count(what);
        }
        sum += x.misses(118, 1, 0, 0) + x.close(9, -1) + x.close(9, 2) + x.keep(0);
        sum += x.loses(25) + x.hears(20) + x.undo() + x.back(0);
        return sum;
    }
}
