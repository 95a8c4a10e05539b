import com.sun.management.ThreadMXBean;
import java.lang.management.ManagementFactory;
import java.lang.reflect.Array;
import java.lang.reflect.Field;
import java.lang.reflect.Modifier;
import java.util.ArrayDeque;
import java.util.Collections;
import java.util.Deque;
import java.util.IdentityHashMap;
import java.util.Set;

/** The room that all calls of one run live in: what an object takes, and that no call takes more. */
final class RoomTest {
    private static final int MOST_OBJECTS = 400;
    private static final int MOST_ELEMENTS = 10000;
    // Of 27 calls each.
    private static final int ROUNDS = 16;
    // The reading itself may take a little.
    private static final long MOST_BYTES = 4096;

    static void run(Checks checks) {
        try {
            objects(checks);
        } catch (IllegalAccessException e) {
            checks.holds("fields can be read", false);
        }
        calls(checks);
    }

    private static void objects(Checks checks) throws IllegalAccessException {
        Set<Object> seen = Collections.newSetFromMap(new IdentityHashMap<>());
        Deque<Object> open = new ArrayDeque<>();
        open.add(new ReshapedTexts());
        long elements = 0;
        while (!open.isEmpty()) {
            Object o = open.remove();
            if (!seen.add(o)) {
                continue;
            }
            if (o.getClass().isArray()) {
                elements += Array.getLength(o);
                continue;
            }
            for (Field f : o.getClass().getDeclaredFields()) {
                if (Modifier.isStatic(f.getModifiers())) {
                    continue;
                }
                elements++;
                f.setAccessible(true);
                if (!f.getType().isPrimitive() && f.get(o) != null) {
                    open.add(f.get(o));
                }
            }
        }
        checks.holds("objects: " + seen.size(), seen.size() <= MOST_OBJECTS);
        checks.holds("fields and elements: " + elements, elements <= MOST_ELEMENTS);
    }

    private static void calls(Checks checks) {
        ThreadMXBean bean = (ThreadMXBean) ManagementFactory.getThreadMXBean();
        long id = Thread.currentThread().getId();
        work(new ReshapedTexts());
        ReshapedTexts x = new ReshapedTexts();
        long before = bean.getThreadAllocatedBytes(id);
        int sum = work(x);
        long taken = bean.getThreadAllocatedBytes(id) - before;
        checks.holds("bytes that the calls take: " + taken, taken <= MOST_BYTES);
        checks.holds("the calls do something", sum > 0);
    }

    private static int work(ReshapedTexts x) {
        int sum = 0;
        for (int i = 0; i < ROUNDS; i++) {
            sum += x.clear() + x.clearText();
            for (int editor = 0; editor < 3; editor++) {
                sum += x.insert(editor, 0, editor) + x.insert(editor, 1, editor) + x.send(editor);
            }
            sum += x.hearAll(0) + x.hear(1) + x.delete(1, 0) + x.takeBack(1) + x.mark(1, 1);
            sum += x.type('h') + x.type('2') + x.type(';') + x.fault(0) + x.play() + x.undo();
            sum += x.both(2) + x.both(3) + x.inTheEnd(1, 0) + x.wouldSend(0, 1) + x.count(4);
        }
        return sum;
    }
}
