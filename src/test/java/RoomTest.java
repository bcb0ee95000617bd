import java.lang.reflect.Array;
import java.lang.reflect.Field;
import java.lang.reflect.Modifier;
import java.util.ArrayDeque;
import java.util.Collections;
import java.util.IdentityHashMap;
import java.util.Set;

/** What an object is made of is small, and no call adds to it: one room holds a whole run. */
public final class RoomTest {
    private static final int CALLS = 512;

    public static void main(String[] args) throws IllegalAccessException {
        Check check = new Check();
        NormalForms x = new NormalForms();
        long[] made = held(x);
        System.out.println("a new object: " + made[0] + " objects and arrays, " + made[1] + " fields and elements");
        check.equal("objects and arrays at most 1000", made[0] <= 1000, true);
        check.equal("fields and elements at most 10000", made[1] <= 10000, true);
        long bytes = allocatedBy(x);
        System.out.println(CALLS + " calls: " + bytes + " bytes");
        check.equal("calls make nothing", bytes < 10000, true);
        long[] after = held(x);
        check.equal("objects after the calls", after[0], made[0]);
        check.equal("fields after the calls", after[1], made[1]);
        check.finish();
    }

    private static void dearCalls(NormalForms x) {
        x.size(4, 4);
        int calls = 1;
        for (int k = 0; calls < CALLS - 8; k++) {
            x.put(k % 4, k / 4 % 4, k / 16 % 4, 1 + k * 7919 % 32000);
            x.make(0);
            x.make(1);
            x.make(2);
            x.root(0);
            x.minimal(0);
            calls += 6;
        }
    }

    private static long allocatedBy(NormalForms x) {
        com.sun.management.ThreadMXBean threads =
                (com.sun.management.ThreadMXBean) java.lang.management.ManagementFactory.getThreadMXBean();
        dearCalls(new NormalForms());
        threads.getCurrentThreadAllocatedBytes();
        long before = threads.getCurrentThreadAllocatedBytes();
        dearCalls(x);
        return threads.getCurrentThreadAllocatedBytes() - before;
    }

    /** How many objects and arrays, and how many fields and elements in them, are reached from x. */
    private static long[] held(Object x) throws IllegalAccessException {
        Set<Object> seen = Collections.newSetFromMap(new IdentityHashMap<>());
        ArrayDeque<Object> open = new ArrayDeque<>();
        seen.add(x);
        open.add(x);
        long parts = 0;
        while (!open.isEmpty()) {
            Object next = open.remove();
            if (next.getClass().isArray()) {
                int length = Array.getLength(next);
                parts += length;
                for (int k = 0; k < length && !next.getClass().getComponentType().isPrimitive(); k++) {
                    note(Array.get(next, k), seen, open);
                }
            } else {
                for (Field field : next.getClass().getDeclaredFields()) {
                    if (!Modifier.isStatic(field.getModifiers())) {
                        parts++;
                        field.setAccessible(true);
                        if (!field.getType().isPrimitive()) {
                            note(field.get(next), seen, open);
                        }
                    }
                }
            }
        }
        return new long[] {seen.size(), parts};
    }

    private static void note(Object found, Set<Object> seen, ArrayDeque<Object> open) {
        if (found != null && seen.add(found)) {
            open.add(found);
        }
    }
}
