import java.lang.management.ManagementFactory;
import java.lang.reflect.Array;
import java.lang.reflect.Field;
import java.lang.reflect.Modifier;
import java.util.ArrayDeque;
import java.util.Collections;
import java.util.Deque;
import java.util.IdentityHashMap;
import java.util.Set;

/** All calls of a run live in one room: an object is small, and no call makes another. */
public final class RoomTest {
    private static final int CALLS = 512;
    private static final int MOST_OBJECTS = 60;
    private static final int MOST_ELEMENTS = 600;
    /** What the measuring itself may make. */
    private static final int SLACK = 1024;

    private static int objects = 0;
    private static int elements = 0;
    /** Takes the answers, so that no call can be left out. */
    private static long sum = 0;

    public static void main(String[] args) throws IllegalAccessException {
        objectIsSmall();
        callsMakeNothing();
        Check.end();
    }

    private static void objectIsSmall() throws IllegalAccessException {
        Check.part("a new object");
        StereoForms x = new StereoForms();
        Set<Object> seen = Collections.newSetFromMap(new IdentityHashMap<>());
        Deque<Object> open = new ArrayDeque<>();
        open.add(x);
        while (!open.isEmpty()) {
            Object one = open.remove();
            if (seen.add(one)) {
                count(one, open);
            }
        }
        Check.due(objects + " objects are few", objects <= MOST_OBJECTS, true);
        Check.due(elements + " elements are few", elements <= MOST_ELEMENTS, true);
    }

    private static void count(Object one, Deque<Object> open) throws IllegalAccessException {
        objects++;
        if (one.getClass().isArray()) {
            elements += Array.getLength(one);
            for (int k = 0; k < Array.getLength(one) && !one.getClass().getComponentType().isPrimitive(); k++) {
                open.add(Array.get(one, k));
            }
            return;
        }
        for (Field field : one.getClass().getDeclaredFields()) {
            if (!Modifier.isStatic(field.getModifiers())) {
                elements++;
                field.setAccessible(true);
                if (!field.getType().isPrimitive()) {
                    open.add(field.get(one));
                }
            }
        }
    }

    private static void callsMakeNothing() {
        Check.part("512 calls");
        com.sun.management.ThreadMXBean threads =
                (com.sun.management.ThreadMXBean) ManagementFactory.getThreadMXBean();
        for (int round = 0; round < 5; round++) {
            StereoForms x = new StereoForms();
            long before = threads.getCurrentThreadAllocatedBytes();
            run(x);
            long made = threads.getCurrentThreadAllocatedBytes() - before;
            // What the first round makes is the classes that it is the first to use.
            Check.due("round " + round + " made " + made + " bytes", round == 0 || made <= SLACK, true);
        }
        Check.due("the answers were asked for", sum != 0, true);
    }

    private static void run(StereoForms x) {
        int calls = 0;
        for (int a = 0; a < 7; a++) {
            sum += x.atom(0, 300 - 90 * a, a * a * 10);
            calls++;
        }
        for (int a = 0; a < 7; a++) {
            sum += x.bond(a, (a + 1) % 7, 1, 1 + a % 2);
            calls++;
        }
        sum += x.bond(0, 2, 1, 0) + x.bond(4, 6, 1, 0);
        calls += 2;
        while (calls + 16 <= CALLS) {
            sum += x.move(calls % 7, calls, -calls) ? 1 : 0;
            sum += x.mark(calls % 9, calls % 3, calls % 7) ? 1 : 0;
            sum += x.flip() + x.hydrogens(1) + x.sense(0) + x.turn(0) + x.row(6) + x.senses();
            sum += (x.chiral() ? 1 : 0) + x.isomers() + x.compare() + x.keep() + x.write() + x.at(3);
            calls += 14;
        }
        sum += x.clear();
    }
}
