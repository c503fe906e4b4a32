import java.lang.management.ManagementFactory;
import java.lang.reflect.Array;
import java.lang.reflect.Field;
import java.lang.reflect.Modifier;
import java.util.IdentityHashMap;
import java.util.Map;

/** The room that calls live in: what a new object takes is little, and no call takes any more. */
public final class RoomTest {
    private static final com.sun.management.ThreadMXBean THREADS =
            (com.sun.management.ThreadMXBean) ManagementFactory.getThreadMXBean();
    private static final int MOST_ELEMENTS = 3000;
    private static final Due DUE = new Due("RoomTest");
    private static int sum;

    public static void main(String[] args) throws Exception {
        Map<Object, Long> seen = new IdentityHashMap<>();
        measure(new KnitStreets(), seen);
        long elements = 0;
        for (long e : seen.values()) {
            elements += e;
        }
        System.out.println("RoomTest: " + seen.size() + " objects and arrays, " + elements + " fields and elements");
        DUE.so("few objects", seen.size() <= 100);
        DUE.so("few elements", elements <= MOST_ELEMENTS);
        long least = Long.MAX_VALUE;
        for (int i = 0; i < 5; i++) {
            KnitStreets x = new KnitStreets();
            long before = taken();
            life(x);
            least = Math.min(least, taken() - before);
        }
        // the asking takes some bytes itself; one object a round would take more
        DUE.so("no call takes room", least < 8 * 16);
        DUE.so("something was answered", sum != 0);
        DUE.end();
    }

    private static long taken() {
        return THREADS.getThreadAllocatedBytes(Thread.currentThread().getId());
    }

    private static void measure(Object o, Map<Object, Long> seen) throws IllegalAccessException {
        if (o == null || seen.containsKey(o)) {
            return;
        }
        seen.put(o, 0L);
        long elements = 0;
        if (o.getClass().isArray()) {
            elements = Array.getLength(o);
            for (int i = 0; i < elements && !o.getClass().getComponentType().isPrimitive(); i++) {
                measure(Array.get(o, i), seen);
            }
        } else {
            for (Field f : o.getClass().getDeclaredFields()) {
                if (!Modifier.isStatic(f.getModifiers())) {
                    elements++;
                    if (!f.getType().isPrimitive()) {
                        f.setAccessible(true);
                        measure(f.get(o), seen);
                    }
                }
            }
        }
        seen.put(o, elements);
    }

    /** Each call, at its dearest. */
    private static void life(KnitStreets x) {
        for (int round = 0; round < 8; round++) {
            sum += x.knit(2, 3) + x.deal(5) + x.deal(12) + x.told(0, 4) + x.told(1, 5) + x.as(0, 0) + x.turns(0, 1);
            sum += x.set(0, 1, 5) + x.set(0, 2, 50) + x.drops(1, 1) + x.hooks(1, 1) + x.rule(0, 30) + x.seed(round);
            // "wear g*w+n/2" as three numbers
            sum += x.feed(0x77656172, 0x20672a77, 0x2b6e2f32) + x.text() + x.text() + x.feed(1, 2, 3) + x.trim(3);
            sum += x.trim(0) + x.textTold(0, 1) + x.why(0) + x.fee() + x.fine(0) + x.nights(100) + x.town(3);
            sum += x.way(0, 0, 11, 7) + x.reach(0, 0) + x.pulled(0, 0) + x.worst(2) + x.needs(11, 3);
            sum += x.behind(100, 3) + x.gone(0, 0) + x.thick(0, 60, 0) + x.becomes(0, 60, 0);
            sum += x.sheet(0, 0, 24) + x.sheet(1, 1, 24) + x.mark(0, 3, 5) + x.like(0, 0) + x.pour(0) + x.reads(0);
            sum += x.copy(0, 0, 0, 3, 9) + x.lay(0, 1, 0) + x.lay(1, 2, 0) + x.lay(2, 3, 5) + x.ask(0, 0);
            sum += x.item(1, 3) + x.rest(2, 3) + x.keep() + x.tell(5) + x.check(30) + x.back() + x.count(8);
        }
    }
}
