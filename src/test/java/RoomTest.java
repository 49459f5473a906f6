import java.lang.management.ManagementFactory;
import java.lang.reflect.Array;
import java.lang.reflect.Field;
import java.lang.reflect.Modifier;
import java.util.Arrays;
import java.util.Collections;
import java.util.IdentityHashMap;
import java.util.Set;

/** What an object takes in the room of a run: little when it is made, and nothing by its calls. */
public final class RoomTest {
    private static final int MOST_OBJECTS = 60;
    private static final int MOST_ELEMENTS = 24000;
    private static final long MOST_BYTES_OF_CALLS = 20000;

    private int elements = 0;

    public static void main(String[] args) throws IllegalAccessException {
        Due due = new Due();
        RoomTest test = new RoomTest();
        Set<Object> seen = Collections.newSetFromMap(new IdentityHashMap<>());
        test.walk(new ShareCoder(), seen);
        due.holds("objects of a new one: " + seen.size(), seen.size() <= MOST_OBJECTS);
        due.holds("fields and elements of a new one: " + test.elements, test.elements <= MOST_ELEMENTS);
        ShareCoder[] objects = new ShareCoder[8];
        Arrays.setAll(objects, i -> new ShareCoder());
        com.sun.management.ThreadMXBean threads =
                (com.sun.management.ThreadMXBean) ManagementFactory.getThreadMXBean();
        // What the machine makes when code runs for the first time is not the program's.
        work(objects[0]);
        long before = threads.getCurrentThreadAllocatedBytes();
        int calls = 0;
        for (int i = 1; i < objects.length; i++) {
            calls += work(objects[i]);
        }
        long made = threads.getCurrentThreadAllocatedBytes() - before;
        due.holds(calls + " calls made " + made + " bytes", made <= MOST_BYTES_OF_CALLS);
        due.finish("RoomTest");
    }

    private void walk(Object object, Set<Object> seen) throws IllegalAccessException {
        if (object == null || !seen.add(object)) {
            return;
        }
        Class<?> type = object.getClass();
        if (type.isArray()) {
            elements += Array.getLength(object);
            for (int i = 0; !type.getComponentType().isPrimitive() && i < Array.getLength(object); i++) {
                walk(Array.get(object, i), seen);
            }
            return;
        }
        for (Field field : type.getDeclaredFields()) {
            if (!Modifier.isStatic(field.getModifiers())) {
                elements++;
                field.setAccessible(true);
                if (!field.getType().isPrimitive()) {
                    walk(field.get(object), seen);
                }
            }
        }
    }

    /** The dearest calls, over and over, but 512 at most. */
    private static int work(ShareCoder x) {
        int calls = 0;
        for (int round = 0; round < 6; round++) {
            x.end(0);
            for (int i = 0; i < 70; i++) {
                x.feed(i * 0x01020304, i, -i, i << 20, 77);
            }
            x.learn(round % 6, 12);
            x.ideal(round % 6);
            x.pack(round % 6, round % 3, 0);
            x.take();
            x.unpack((round + 1) % 6);
            x.place(round % 6, 2, 5);
            x.code(round % 6, 0, 1, 5000, 77);
            x.left(round % 6, 1, 0, 1 << 24);
            calls += 79;
        }
        return calls;
    }
}
