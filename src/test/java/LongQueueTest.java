import java.util.ArrayList;
import java.util.HashMap;
import java.util.List;
import java.util.Map;
import java.util.Random;

/**
 * Queues of 8 to 12 quotes with wide times, of which the naive model has too many orders: held against a search
 * for the best end of what is left at a minute, kept by what is left and the minute.
 */
public final class LongQueueTest {
    private static final Check CHECK = new Check();

    /** What can still be told: how many, till when, which ones as a set and in which order. */
    private record Best(int size, int done, int set, List<Integer> order) {
        boolean isBetterThan(Best other) {
            if (size != other.size) {
                return size > other.size;
            }
            return done != other.done ? done < other.done : set < other.set;
        }
    }

    private final Random chance;
    private final TickerHouse x = new TickerHouse();
    private final Map<Long, Best> known = new HashMap<>();
    private int[] minute, due, takes;

    private LongQueueTest(long seed) {
        chance = new Random(seed);
    }

    public static void main(String[] args) {
        int runs = args.length > 0 ? Integer.parseInt(args[0]) : 60;
        long first = args.length > 1 ? Long.parseLong(args[1]) : 1;
        for (long seed = first; seed < first + runs; seed++) {
            new LongQueueTest(seed).run("run " + seed);
        }
        CHECK.end();
    }

    private void run(String name) {
        int n = 8 + chance.nextInt(5);
        minute = new int[n];
        due = new int[n];
        takes = new int[n];
        CHECK.due(name + ": line", x.line(1000, 50, 1 + chance.nextInt(5)), 1);
        CHECK.due(name + ": firm", x.firm(1 + chance.nextInt(26), 0, 0, 0), 0);
        int wide = 1 + chance.nextInt(40);
        for (int q = 0; q < n; q++) {
            minute[q] = chance.nextInt(wide);
            due[q] = minute[q] + chance.nextInt(3 * wide);
            int hundreds = chance.nextBoolean() ? 1 : 1 + chance.nextInt(999);
            CHECK.due(name + ": add", x.add(minute[q], due[q], 0, chance.nextInt(80000), hundreds), q);
            takes[q] = x.minutes(q);
        }
        for (int ask = 0; ask < 3; ask++) {
            int from = chance.nextInt(wide + 5);
            Best best = bestOf((1 << n) - 1, from);
            String told = name + " from " + from + ": ";
            CHECK.due(told + "set", x.most(from, 0), best.set);
            CHECK.due(told + "done", x.most(from, 1), best.done);
            for (int i = 0; i <= n; i++) {
                CHECK.due(told + "order " + i, x.orderAt(from, i), i < best.size ? best.order.get(i) : TickerHouse.NONE);
            }
        }
    }

    /** Those that are tried first have lesser numbers, so that of like ones the first order stays. */
    private Best bestOf(int left, int now) {
        long key = left * 100000L + now;
        Best best = known.get(key);
        if (best == null) {
            best = new Best(0, now, 0, new ArrayList<>());
            for (int q = 0; q < minute.length; q++) {
                int end = Math.max(now, minute[q]) + takes[q];
                if ((left >> q & 1) != 0 && end <= due[q]) {
                    Best rest = bestOf(left & ~(1 << q), end);
                    List<Integer> order = new ArrayList<>(List.of(q));
                    order.addAll(rest.order);
                    Best all = new Best(rest.size + 1, rest.done, rest.set | 1 << q, order);
                    best = all.isBetterThan(best) ? all : best;
                }
            }
            known.put(key, best);
        }
        return best;
    }
}
