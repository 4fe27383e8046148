import java.lang.management.ManagementFactory;
import java.lang.reflect.Array;
import java.lang.reflect.Field;
import java.lang.reflect.Modifier;
import java.util.ArrayDeque;
import java.util.Collections;
import java.util.Deque;
import java.util.IdentityHashMap;
import java.util.Set;

/** All memory is made at first: calls make next to nothing, and an object is far from filling the room. */
public final class RoomTest {
    public static void main(String[] args) throws IllegalAccessException {
        Check check = new Check("RoomTest");
        warmUp();
        long before = allocated();
        CubeStore s = new CubeStore(512);
        long made = allocated() - before;
        check.due("a new object takes " + made + " bytes", made < 16_000_000, true);
        Check.run(s, Check.SHOPS);
        s.open();
        int[] words = {0x73656c65, 0x63742063, 0x6f756e74, 0x282a293b, 0x20202020};
        before = allocated();
        for (int i = 0; i < 40; i++) {
            s.spread(400, i);
            s.load();
            s.choose(8);
            s.settle();
            s.feed(words[0], words[1], words[2], words[3], words[4]);
            s.run();
            s.cell(0, 0);
            s.audit();
            s.recover();
        }
        long calls = allocated() - before;
        check.due("calls took " + calls + " bytes", calls < 200_000, true);
        check.due("facts", s.count(1), 16000);
        room(check, s);
        check.end();
    }

    /** All calls of a run live in one room of 600,000 objects and arrays, 7.3 million fields and elements. */
    private static void room(Check check, CubeStore store) throws IllegalAccessException {
        Set<Object> seen = Collections.newSetFromMap(new IdentityHashMap<>());
        Deque<Object> left = new ArrayDeque<>();
        left.add(store);
        seen.add(store);
        long elements = 0;
        while (!left.isEmpty()) {
            Object it = left.remove();
            if (it.getClass().isArray()) {
                elements += Array.getLength(it);
                for (int i = 0; i < Array.getLength(it) && !it.getClass().getComponentType().isPrimitive(); i++) {
                    look(Array.get(it, i), seen, left);
                }
                continue;
            }
            for (Field field : it.getClass().getDeclaredFields()) {
                if (!Modifier.isStatic(field.getModifiers())) {
                    field.setAccessible(true);
                    elements++;
                    if (!field.getType().isPrimitive()) {
                        look(field.get(it), seen, left);
                    }
                }
            }
        }
        check.due("objects and arrays: " + seen.size(), seen.size() < 2000, true);
        check.due("fields and elements: " + elements, elements < 2_500_000, true);
    }

    private static void look(Object it, Set<Object> seen, Deque<Object> left) {
        if (it != null && seen.add(it)) {
            left.add(it);
        }
    }

    private static void warmUp() {
        CubeStore s = Check.opened(32, Check.SHOPS);
        s.stage(1);
        s.load();
        s.audit();
        allocated();
    }

    private static long allocated() {
        com.sun.management.ThreadMXBean threads = (com.sun.management.ThreadMXBean) ManagementFactory.getThreadMXBean();
        return threads.getThreadAllocatedBytes(Thread.currentThread().getId());
    }
}
