import java.lang.reflect.InvocationTargetException;
import java.lang.reflect.Method;
import java.lang.reflect.Modifier;
import java.util.ArrayList;
import java.util.Comparator;
import java.util.List;
import java.util.Random;

/** Every call with any numbers, in any state, also far beyond 512 calls: none throws. */
public final class NeverThrowsTest {
    private static final Check C = new Check();
    private static final int[] EDGES = {Integer.MIN_VALUE, -100001, -2, -1, 0, 1, 2, 6, 7, 8, 12, 20, 27, 40, 44, 54, 300,
        999, 1000, 2000, 3000, 79999, 100000, 100001, Integer.MAX_VALUE};

    public static void main(String[] args) throws Exception {
        List<Method> calls = new ArrayList<>();
        for (Method m : TickerHouse.class.getDeclaredMethods()) {
            if (Modifier.isPublic(m.getModifiers())) {
                calls.add(m);
            }
        }
        // Reflection tells them in no order that is promised.
        calls.sort(Comparator.comparing(Method::getName));
        for (int seed = 1; seed <= 40; seed++) {
            run(new Random(seed), calls);
        }
        C.end();
    }

    private static void run(Random chance, List<Method> calls) throws IllegalAccessException {
        TickerHouse x = new TickerHouse();
        int reach = 3 + chance.nextInt(60);
        for (int i = 0; i < 2000; i++) {
            Method m = calls.get(chance.nextInt(calls.size()));
            Class<?>[] types = m.getParameterTypes();
            Object[] args = new Object[types.length];
            for (int k = 0; k < args.length; k++) {
                int small = chance.nextInt(reach);
                int edge = EDGES[chance.nextInt(EDGES.length)];
                args[k] = types[k] == boolean.class ? (Object) chance.nextBoolean() : (Object) (chance.nextInt(5) == 0 ? edge : small);
            }
            String thrown = "";
            try {
                m.invoke(x, args);
            } catch (InvocationTargetException e) {
                thrown = m.getName() + " threw " + e.getCause();
            }
            C.holds(thrown, thrown.isEmpty());
        }
    }
}
