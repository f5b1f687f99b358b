import java.lang.management.ManagementFactory;
import java.lang.reflect.Array;
import java.lang.reflect.Field;
import java.lang.reflect.Modifier;
import java.util.ArrayDeque;
import java.util.Collections;
import java.util.IdentityHashMap;
import java.util.Set;

/** All calls of a run live in one room: a new object is small, and no call makes an object. */
public final class RoomTest {
    private static final Check C = new Check();

    public static void main(String[] args) throws IllegalAccessException {
        long[] atFirst = held(new TickerHouse());
        C.holds("a new object: " + atFirst[0] + " objects and arrays", atFirst[0] <= 100);
        C.holds("a new object: " + atFirst[1] + " fields and elements", atFirst[1] <= 30000);
        // The first time classes are made ready, which is no call's doing.
        run(new TickerHouse());
        TickerHouse x = new TickerHouse();
        com.sun.management.ThreadMXBean threads = (com.sun.management.ThreadMXBean) ManagementFactory.getThreadMXBean();
        long before = allocated(threads);
        long between = allocated(threads);
        run(x);
        long after = allocated(threads);
        C.due("bytes that the calls made", after - between, between - before);
        long[] then = held(x);
        C.due("objects and arrays then", then[0], atFirst[0]);
        C.due("fields and elements then", then[1], atFirst[1]);
        C.end();
    }

    private static long allocated(com.sun.management.ThreadMXBean threads) {
        return threads.getThreadAllocatedBytes(Thread.currentThread().getId());
    }

    /** Every call, the dear ones on as much as there can be. */
    private static void run(TickerHouse x) {
        for (int i = 0; i < 9; i++) {
            x.machine(i, i, i);
        }
        for (int i = 0; i < 41; i++) {
            x.slip(i % 8, 11 * i);
        }
        for (int i = 0; i < 13; i++) {
            x.firm(i + 1, 26, 25, i + 13);
            x.add(i, 300, i, 6000 * i, i + 1);
        }
        x.alive(3, false);
        x.line(1500, 40, 2);
        x.shorts(true);
        for (int round = 0; round < 4; round++) {
            x.clear();
            x.write(round, 801 * round, round + 1);
            x.write(round, 801 * round, 1);
            x.take();
            x.send();
            x.unison();
            x.cut(0, 0, 5);
            x.sign(44);
            x.pulse(round);
            x.bring(27 + round);
            x.cost(round, 7);
            x.often(7);
            x.repair();
            x.repairAt(3);
            x.mend();
            x.read(0);
            x.readAt(0, 1);
            x.most(round, 0);
            x.orderAt(round, 1);
            x.tape(round, 1);
            x.price(round, 20, 0);
            x.minutes(round);
            x.over(round);
            x.about(round, 3);
            x.ribbon(round, 0);
            x.wrong(round);
            x.rowAt(0);
            x.last(round);
            x.count(round);
            x.digest();
        }
        x.tear();
        x.drop();
    }

    /** How many objects and arrays an object is made of, and how many fields and elements they have. */
    private static long[] held(Object root) throws IllegalAccessException {
        Set<Object> seen = Collections.newSetFromMap(new IdentityHashMap<>());
        ArrayDeque<Object> todo = new ArrayDeque<>();
        long parts = 0;
        todo.add(root);
        seen.add(root);
        while (!todo.isEmpty()) {
            Object o = todo.remove();
            if (o.getClass().isArray()) {
                parts += Array.getLength(o);
                if (o instanceof Object[]) {
                    for (Object e : (Object[]) o) {
                        visit(e, seen, todo);
                    }
                }
            } else {
                for (Field f : o.getClass().getDeclaredFields()) {
                    if (!Modifier.isStatic(f.getModifiers())) {
                        parts++;
                        f.setAccessible(true);
                        if (!f.getType().isPrimitive()) {
                            visit(f.get(o), seen, todo);
                        }
                    }
                }
            }
        }
        return new long[] {seen.size(), parts};
    }

    private static void visit(Object o, Set<Object> seen, ArrayDeque<Object> todo) {
        if (o != null && seen.add(o)) {
            todo.add(o);
        }
    }
}
