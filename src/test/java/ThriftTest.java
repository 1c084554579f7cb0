import java.lang.management.ManagementFactory;
import java.lang.reflect.Array;
import java.lang.reflect.Field;
import java.lang.reflect.Modifier;
import java.util.ArrayDeque;
import java.util.Collections;
import java.util.Deque;
import java.util.IdentityHashMap;
import java.util.Set;

/** All calls of one run live in one room: 600,000 objects, and 7.3 million fields and elements in all. */
public final class ThriftTest {
    private static final long ROOM_OBJECTS = 600_000;
    private static final long ROOM_ELEMENTS = 7_300_000;
    /** How many objects a run may make at least, as a test makes many of them. */
    private static final int MANY = 400;
    private static final int MOST_CALLS = 512;

    public static void main(String[] args) throws IllegalAccessException {
        boolean fine = isSmall(new MarketRings());
        fine &= makesLittle();
        if (!fine) {
            System.exit(1);
        }
    }

    private static boolean isSmall(Object root) throws IllegalAccessException {
        Set<Object> seen = Collections.newSetFromMap(new IdentityHashMap<>());
        Deque<Object> open = new ArrayDeque<>();
        open.add(root);
        seen.add(root);
        long elements = 0;
        while (!open.isEmpty()) {
            Object one = open.remove();
            if (one.getClass().isArray()) {
                elements += Array.getLength(one);
                continue;
            }
            for (Field f : one.getClass().getDeclaredFields()) {
                if (!Modifier.isStatic(f.getModifiers())) {
                    elements++;
                    f.setAccessible(true);
                    Object held = f.getType().isPrimitive() ? null : f.get(one);
                    if (held != null && seen.add(held)) {
                        open.add(held);
                    }
                }
            }
        }
        boolean small = seen.size() <= ROOM_OBJECTS / MANY && elements <= ROOM_ELEMENTS / MANY;
        if (!small) {
            System.out.println("a new object has " + seen.size() + " objects and " + elements + " elements");
        }
        return small;
    }

    private static long made() {
        return ((com.sun.management.ThreadMXBean) ManagementFactory.getThreadMXBean()).getCurrentThreadAllocatedBytes();
    }

    /** The dearest calls of a run, on a land with all there is room for, in bytes of eight for each element. */
    private static boolean makesLittle() {
        MarketRings x = new MarketRings();
        long sum = allCalls(x);
        long before = made();
        for (int i = 0; i < MOST_CALLS / 4; i++) {
            sum += x.best(99999) + x.hold(1) + x.rounds(20) + x.falls(0, 9999);
        }
        for (int i = 0; i < 2; i++) {
            sum += allCalls(x);
        }
        long made = made() - before;
        boolean little = made <= 8 * ROOM_ELEMENTS + 16 * ROOM_OBJECTS;
        if (!little) {
            System.out.println("calls made " + made + " bytes (" + sum + ")");
        }
        return little;
    }

    private static long allCalls(MarketRings x) {
        long sum = 0;
        for (int line = 0; line < 6; line++) {
            sum += x.feed(8, 0x3130393837363534L) + (line < 5 ? x.feed(1, 47) : 0);
        }
        sum += x.read();
        for (int i = 0; i < 8; i++) {
            sum += x.market(20 * i) + x.use(i % 6, 5 + i, i, i, i) + x.year(3, i) + x.own(10 * i, i % 4) + x.step(i, i + 5);
            sum += x.plan(10 * i, 10 * i + 1, 1 + i % 3, i) + x.road(10 * i, 10 * i + 10, i % 4) + x.toll(10 * i, i);
        }
        for (int i = 0; i < 18; i++) {
            sum += x.price(i / 3, i % 3, 30 + i) + x.piece(i / 3, i % 3, 10 + i, 40 + i) + x.tax(i / 3 - 1, i);
            sum += x.bid(i / 3, i, i % 3) + x.goes(i, i % 2) + x.rent(i - 1) + x.comes(i / 3, i % 3);
            sum += x.bought(i / 3, i % 3, i) + x.clears(i / 3, i % 3) + x.ring(i % 10, i / 3) + x.edge(i % 10, i / 3, i % 2);
            sum += x.acre(i, i % 5) + x.out(i / 3) + x.falls(i / 3, i) + x.way(i, 75) + x.held(i, i % 2 == 0);
            sum += x.gain(i) + x.losers(i) + x.put(i % 6 - 1) + x.count(i);
        }
        return sum + x.borders() + x.best(20) + x.hold(1) + x.rounds(2) + x.judge() + x.image() + x.on();
    }
}
