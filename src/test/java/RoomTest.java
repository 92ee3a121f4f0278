import com.sun.management.ThreadMXBean;
import java.lang.management.ManagementFactory;
import java.lang.reflect.Array;
import java.lang.reflect.Field;
import java.lang.reflect.Modifier;
import java.util.IdentityHashMap;
import java.util.Map;

/** All calls of a run share one room: an object's rows are made with it, and no call makes more. */
final class RoomTest {
    private static final int OBJECTS = 30;
    /** An object is used for 512 calls at most, and a round has some 75. */
    private static final int ROUNDS = 6;

    private static final long CALLS = 513;
    private static final long ROOM_OBJECTS = 600000;
    private static final long ROOM_ELEMENTS = 7300000;

    public static void main(String[] args) throws IllegalAccessException {
        ThreadMXBean threads = (ThreadMXBean) ManagementFactory.getThreadMXBean();
        MinuteSignal[] objects = new MinuteSignal[OBJECTS];
        for (int i = 0; i < OBJECTS; i++) {
            objects[i] = new MinuteSignal();
        }
        useAll(new MinuteSignal());
        long before = threads.getCurrentThreadAllocatedBytes();
        long sum = 0;
        for (MinuteSignal x : objects) {
            for (int i = 0; i < ROUNDS; i++) {
                sum += useAll(x);
            }
        }
        long made = threads.getCurrentThreadAllocatedBytes() - before;
        Due.isTrue("calls were made, " + sum, sum != 0);
        // the reading itself may make a little
        Due.isTrue("rounds of all calls on " + OBJECTS + " objects make nothing, not " + made + " bytes", made < 4096);
        newObjectsAreSmall();
        Due.end();
    }

    /** The dearest call makes a new object: a room must hold as many as an object may have calls. */
    private static void newObjectsAreSmall() throws IllegalAccessException {
        MinuteSignal x = new MinuteSignal();
        Map<Object, Boolean> met = new IdentityHashMap<>();
        long elements = elementsOf(x, met);
        Due.isTrue(CALLS + " times " + met.size() + " objects are in the room", met.size() * CALLS < ROOM_OBJECTS);
        Due.isTrue(CALLS + " times " + elements + " elements are in the room", elements * CALLS < ROOM_ELEMENTS);
        Due.isTrue("the rows were found, " + elements, elements > 120);
        useAll(x);
        met.clear();
        Due.is("elements of an object that was used", elementsOf(x, met), elements);
    }

    /** The fields and elements of an object and of all that it holds, each counted once. */
    private static long elementsOf(Object x, Map<Object, Boolean> met) throws IllegalAccessException {
        if (x == null || met.put(x, true) != null) {
            return 0;
        }
        long sum = 0;
        if (x.getClass().isArray()) {
            sum = Array.getLength(x);
            for (int i = 0; x instanceof Object[] row && i < row.length; i++) {
                sum += elementsOf(row[i], met);
            }
            return sum;
        }
        for (Field field : x.getClass().getDeclaredFields()) {
            if (Modifier.isStatic(field.getModifiers())) {
                continue;
            }
            field.setAccessible(true);
            sum += 1 + (field.getType().isPrimitive() ? 0 : elementsOf(field.get(x), met));
        }
        return sum;
    }

    private static long useAll(MinuteSignal x) {
        long sum = x.count(0) > 0 ? x.loses(x.count(0)) : 0;
        for (int minute = 118; minute < 124; minute++) {
            sum += x.frames(x.bits(minute, 1, 0, 0), 0);
        }
        sum += x.sets() + x.goes(999) + x.needs(3) + x.drifts(5) + x.symbol(5);
        for (int what = 0; what <= 10; what++) {
            sum += x.vote(what) + x.read(3, what) + x.clock(what) + x.count(what);
        }
        sum += x.misses(118, 1, 0, 0) + x.close(9, -1) + x.close(9, 2) + x.keep(0);
        sum += x.loses(25) + x.hears(20) + x.undo() + x.back(0);
        return sum;
    }
}
