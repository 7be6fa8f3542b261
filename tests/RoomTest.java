import com.sun.management.ThreadMXBean;
import java.lang.management.ManagementFactory;
import java.lang.reflect.Array;
import java.lang.reflect.Field;
import java.lang.reflect.Modifier;
import java.util.ArrayDeque;
import java.util.Deque;
import java.util.IdentityHashMap;
import java.util.Map;
import java.util.Random;

/** All calls of a run live in one small room: what an object takes, and what calls make anew. */
public final class RoomTest {
    private static int objects;
    private static int elements;

    public static void main(String[] args) throws IllegalAccessException {
        measure(new ThreeColours());
        System.out.println("a new object: " + objects + " objects, " + elements + " fields and elements");
        Due.holds("room: objects", objects <= 100);
        Due.holds("room: elements", elements <= 10_000);
        // Warm what the machine itself makes at the first calls.
        run(new ThreeColours(), 1);
        ThreeColours town = new ThreeColours();
        ThreadMXBean bean = (ThreadMXBean) ManagementFactory.getThreadMXBean();
        long id = Thread.currentThread().getId();
        long before = bean.getThreadAllocatedBytes(id);
        run(town, 2);
        long asked = bean.getThreadAllocatedBytes(id) - before;
        System.out.println("a run of dear calls: " + asked + " bytes");
        Due.holds("room: calls make nothing but laws", asked < 20_000);
        town = new ThreeColours();
        town.image(0);
        before = bean.getThreadAllocatedBytes(id);
        for (int i = 0; i < 100; i++) {
            town.feed(0x6c696d69, 0x7420332b, 0x332b332b, 0x332b332b, 0x332b3320);
            town.law();
            town.back(0);
        }
        long read = bean.getThreadAllocatedBytes(id) - before;
        System.out.println("100 laws: " + read + " bytes");
        Due.holds("room: a law is small", read < 100 * 400);
        Due.finish();
    }

    private static void run(ThreeColours town, int seed) {
        Random random = new Random(seed);
        for (int i = 0; i < 10; i++) {
            town.thing(i % 4, 1 + i % 7, 1 + (i + 3) % 7, random.nextInt(100), random.nextInt(100));
            town.bloom(i, random.nextInt(4096), i % 8);
        }
        for (int i = 0; i < 8; i++) {
            town.window(random.nextInt(1024), random.nextInt(1024), random.nextInt(100));
        }
        for (int i = 0; i < 5; i++) {
            town.person(i);
        }
        for (int i = 0; i < 30; i++) {
            town.street(random.nextInt(10), random.nextInt(10), 1);
            town.walk(i % 5, random.nextInt(120), random.nextInt(10));
        }
        town.feed(0x6c696d69, 0x7420332b, 0x77696e64, 0x6f772f34, 0x20202020);
        town.law();
        town.force(0);
        town.image(0);
        for (int i = 0; i < 29; i++) {
            town.month(i % 12);
            town.best(1 + i, 2);
            town.mend(1 + i, -1);
            town.bars(1 + i);
            town.third(1 + i, 0);
            town.near(0);
            town.judge(2);
            town.soon(0, 0, 0, 9);
            town.way(1, 0, 0, 9, 5);
            town.file(3, 3, -1);
            town.day(i);
            town.image(1);
            town.take(1);
            town.back(1);
        }
    }

    /** Counts all that hangs on an object. */
    private static void measure(Object root) throws IllegalAccessException {
        Map<Object, Boolean> seen = new IdentityHashMap<>();
        Deque<Object> open = new ArrayDeque<>();
        open.add(root);
        seen.put(root, true);
        while (!open.isEmpty()) {
            Object one = open.poll();
            objects++;
            if (one.getClass().isArray()) {
                elements += Array.getLength(one);
                for (int i = 0; !one.getClass().getComponentType().isPrimitive() && i < Array.getLength(one); i++) {
                    add(Array.get(one, i), seen, open);
                }
                continue;
            }
            for (Field field : one.getClass().getDeclaredFields()) {
                if (!Modifier.isStatic(field.getModifiers())) {
                    elements++;
                    field.setAccessible(true);
                    if (!field.getType().isPrimitive()) {
                        add(field.get(one), seen, open);
                    }
                }
            }
        }
    }

    private static void add(Object one, Map<Object, Boolean> seen, Deque<Object> open) {
        if (one != null && seen.put(one, true) == null) {
            open.add(one);
        }
    }
}
