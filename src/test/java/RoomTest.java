import com.sun.management.ThreadMXBean;
import java.lang.management.ManagementFactory;
import java.lang.reflect.Array;
import java.lang.reflect.Field;
import java.lang.reflect.Modifier;
import java.util.IdentityHashMap;
import java.util.Map;

/** All calls of one run live in one room, so an object takes little of it, and its calls nothing. */
public final class RoomTest {
    private static final int MOST_OBJECTS = 100;
    private static final int MOST_ELEMENTS = 10000;
    /** What the measuring itself may make, far below one small object for each of 512 calls. */
    private static final long SLACK = 4096;

    private static final ThreadMXBean THREADS = (ThreadMXBean) ManagementFactory.getThreadMXBean();

    private final Map<Object, Boolean> seen = new IdentityHashMap<>();
    private int elements = 0;

    private RoomTest() {
    }

    public static void main(String[] args) throws IllegalAccessException {
        RoomTest room = new RoomTest();
        LockstepNet used = fullNet();
        dearCalls(used);
        room.enter(used);
        Checks.due("at most " + MOST_OBJECTS + " objects and arrays", true,
                room.seen.size() <= MOST_OBJECTS);
        Checks.due("at most " + MOST_ELEMENTS + " fields and elements", true,
                room.elements <= MOST_ELEMENTS);
        dearCallsMakeNothing();
        Checks.end();
    }

    private void enter(Object part) throws IllegalAccessException {
        if (part == null || seen.put(part, true) != null) {
            return;
        }
        Class<?> type = part.getClass();
        if (type.isArray()) {
            elements += Array.getLength(part);
            for (int i = 0; i < Array.getLength(part) && !type.getComponentType().isPrimitive(); i++) {
                enter(Array.get(part, i));
            }
            return;
        }
        for (Field field : type.getDeclaredFields()) {
            if (!Modifier.isStatic(field.getModifiers())) {
                elements++;
                field.setAccessible(true);
                if (!field.getType().isPrimitive()) {
                    enter(field.get(part));
                }
            }
        }
    }

    private static void dearCallsMakeNothing() {
        LockstepNet x = fullNet();
        dearCalls(x);
        long thread = Thread.currentThread().getId();
        THREADS.getThreadAllocatedBytes(thread);
        long before = THREADS.getThreadAllocatedBytes(thread);
        dearCalls(x);
        long made = THREADS.getThreadAllocatedBytes(thread) - before;
        Checks.due("calls on an object make nothing, but there were " + made + " bytes", true,
                made <= SLACK);
    }

    /** As many nodes and links as there may be. */
    private static LockstepNet fullNet() {
        LockstepNet x = new LockstepNet();
        x.net(24);
        int links = 0;
        for (int step = 1; links < 60; step++) {
            for (int node = 0; node < 24 && links < 60; node++) {
                links = x.link(node, (node + step) % 24) + 1;
            }
        }
        return x;
    }

    private static void dearCalls(LockstepNet x) {
        for (int k = 0; k < 5; k++) {
            x.builtin(k);
            x.check();
            x.lockstep(30);
            for (int way = 0; way < 3; way++) {
                x.prepare(way, 2 + k);
                for (int i = 1; i <= 8; i++) {
                    x.stopAt(4 * i);
                    x.deliverAll(i % 3, i, 500);
                    x.switchTo((way + i) % 3);
                    x.letters();
                }
                x.release();
            }
        }
    }
}
