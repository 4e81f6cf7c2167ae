import java.lang.management.ManagementFactory;
import java.lang.reflect.Array;
import java.lang.reflect.Field;
import java.lang.reflect.Modifier;
import java.util.IdentityHashMap;
import java.util.Map;

/** All calls of a run live in one room: even a run of nothing but constructors must fit it. */
final class RoomTest {
    private static final long CALLS = 512;
    private static final long MOST_OBJECTS = 600_000;
    private static final long MOST_ELEMENTS = 7_300_000;
    private static final long LESS_THAN_AN_OBJECT_A_JOIN = 4096;

    private final Map<Object, Boolean> seen = new IdentityHashMap<>();
    private long elements = 0;

    public static void main(String[] args) throws IllegalAccessException {
        Due due = new Due("room");
        RoomTest room = new RoomTest();
        room.count(new JoinBench());
        System.out.println("room: an object takes " + room.seen.size() + " objects, " + room.elements + " elements");
        due.is("512 objects fit", CALLS * room.seen.size() < MOST_OBJECTS ? 1 : 0, 1);
        due.is("their elements fit", CALLS * room.elements < MOST_ELEMENTS ? 1 : 0, 1);
        due.is("400 joins make no objects", bytesMadeByCalls() < LESS_THAN_AN_OBJECT_A_JOIN ? 1 : 0, 1);
        due.end();
    }

    private void count(Object object) throws IllegalAccessException {
        if (object == null || seen.put(object, true) != null) {
            return;
        }
        if (object.getClass().isArray()) {
            elements += Array.getLength(object);
            return;
        }
        for (Field field : object.getClass().getDeclaredFields()) {
            if (Modifier.isStatic(field.getModifiers())) {
                continue;
            }
            elements++;
            field.setAccessible(true);
            if (!field.getType().isPrimitive()) {
                count(field.get(object));
            }
        }
    }

    private static long bytesMadeByCalls() {
        var threads = (com.sun.management.ThreadMXBean) ManagementFactory.getThreadMXBean();
        JoinBench bench = Due.manyEvents();
        everyCall(bench);
        threads.getCurrentThreadAllocatedBytes();
        long before = threads.getCurrentThreadAllocatedBytes();
        for (int i = 0; i < 200; i++) {
            everyCall(bench);
        }
        return threads.getCurrentThreadAllocatedBytes() - before;
    }

    private static void everyCall(JoinBench bench) {
        bench.size(1, 4);
        bench.join();
        bench.size(1, 3);
        bench.join();
        bench.row(0, 1, 1);
        bench.cut(0, 1);
        bench.pages(0);
        bench.part(1, 1);
        bench.pair(0, 3);
        bench.told(0);
        bench.event(0, 0);
    }
}
