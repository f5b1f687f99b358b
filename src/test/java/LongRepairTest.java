import java.util.ArrayList;
import java.util.HashMap;
import java.util.List;
import java.util.Map;
import java.util.Random;

/**
 * Repairs of rows of up to 40 signs with up to 12 firms and 8 planted slips, too long for the naive model: held
 * against the least row from every point to the end, kept as a text.
 */
public final class LongRepairTest {
    private static final Check CHECK = new Check();
    // No text has a sign as great as this one.
    private static final String NEVER = String.valueOf((char) 1000);

    private final Random chance;
    private final TickerHouse x = new TickerHouse();
    private final Model m = new Model();
    private final Map<String, String> least = new HashMap<>();

    private LongRepairTest(long seed) {
        chance = new Random(seed);
    }

    public static void main(String[] args) {
        int runs = args.length > 0 ? Integer.parseInt(args[0]) : 40;
        long first = args.length > 1 ? Long.parseLong(args[1]) : 1;
        for (long seed = first; seed < first + runs; seed++) {
            new LongRepairTest(seed).run("run " + seed);
        }
        CHECK.end();
    }

    private void run(String name) {
        int firms = 1 + chance.nextInt(12);
        for (int f = 0; f < firms; f++) {
            int[] code = new int[4];
            int n = 1 + chance.nextInt(4);
            for (int i = 0; i < n; i++) {
                code[i] = chance.nextInt(3) == 0 ? 1 + chance.nextInt(26) : 1 + chance.nextInt(3);
            }
            CHECK.due(name + ": firm", x.firm(code[0], code[1], code[2], code[3]), m.firm(code[0], code[1], code[2], code[3]));
        }
        for (int v : slipped()) {
            CHECK.due(name + ": sign", x.sign(v), m.sign(v));
        }
        String told = name + " of " + Model.chars(m.row) + ": ";
        int slips = 0;
        while (slips <= 6 && leastFrom(slips, 0, 0, 0, "").equals(NEVER)) {
            slips++;
        }
        boolean isNone = slips > 6;
        String want = isNone ? "" : leastFrom(slips, 0, 0, 0, "");
        CHECK.due(told + "repair", x.repair(), isNone ? Model.NONE : slips);
        for (int i = 0; i <= 46; i++) {
            CHECK.due(told + "repairAt(" + i + ")", x.repairAt(i), i < want.length() ? want.charAt(i) : Model.NONE);
        }
        CHECK.due(told + "mend", x.mend(), isNone ? Model.NO : want.length() > 40 ? Model.FULL : want.length());
    }

    /** The least rest of a row with so many slips from a point on, or NEVER; signs are its characters. */
    private String leastFrom(int slips, int used, int back, int flip, String state) {
        if (slips < 0) {
            return NEVER;
        }
        if (used == m.row.size()) {
            return state.isEmpty() && used > 0 ? "" : NEVER;
        }
        String key = slips + " " + used + " " + back + " " + flip + " " + state;
        String best = least.get(key);
        if (best == null) {
            best = lesser(leastFrom(slips - 1, used, back + 1, flip, state), leastFrom(slips - 1, used, back, 1 - flip, state));
            int printed = m.row.get(used);
            for (int v = 0; v <= 54; v++) {
                String then = behind(state, v);
                if (then != null) {
                    best = lesser(best, led(v, leastFrom(slips - 1, used, back, flip, then)));
                    if (isMeant(printed, v, back, flip)) {
                        best = lesser(best, led(v, leastFrom(slips, used + 1, back, flip, then)));
                    }
                }
            }
            least.put(key, best);
        }
        return best;
    }

    private static boolean isMeant(int printed, int v, int back, int flip) {
        for (int wheel = 0; wheel < 2; wheel++) {
            for (int place = 0; place < 28; place++) {
                if (Model.signOn(wheel, place) == printed && Model.signOn(wheel ^ flip, (place + back) % 28) == v) {
                    return true;
                }
            }
        }
        return false;
    }

    private static String led(int v, String rest) {
        return rest.equals(NEVER) ? NEVER : (char) v + rest;
    }

    private static String lesser(String a, String b) {
        return a.compareTo(b) <= 0 ? a : b;
    }

    /** Of a quote so far (the letters, then what comes with digits as 9s) what it is with one sign more, or null. */
    private String behind(String state, int v) {
        if (v == 0) {
            return state.matches("99{1,3}e?(m9{1,3})?") ? "" : null;
        }
        char c = Model.CHARS.charAt(v);
        if (v <= 26) {
            return m.codeNames().stream().anyMatch(code -> code.startsWith(state + c)) ? state + c : null;
        }
        if (c >= 'a' && c <= 'g') {
            return state.matches("99{1,3}") ? state + "e" : null;
        }
        if (c == 'm') {
            return state.matches("99{1,3}e?") ? state + "m" : null;
        }
        if (c < '0' || c > '9') {
            return null;
        }
        return m.codeNames().contains(state) ? "9" : behindByDigit(state, c);
    }

    /** A 1 behind the mark is kept as it is as long as it is alone. */
    private static String behindByDigit(String state, char c) {
        if (state.matches("9{1,3}") || state.matches(".*m9{1,2}")) {
            return state + "9";
        }
        if (state.matches("9.*m")) {
            return c == '0' ? null : state + (c == '1' ? "1" : "9");
        }
        return state.matches("9.*m1") ? state.substring(0, state.length() - 1) + "99" : null;
    }

    /** A whole row as a machine prints it that loses steps, shifts and prints, cut at 40 signs. */
    private List<Integer> slipped() {
        List<Integer> whole = new ArrayList<>();
        int quotes = 1 + chance.nextInt(5);
        for (int q = 0; q < quotes; q++) {
            int hundreds = chance.nextBoolean() ? 1 : 2 + chance.nextInt(998);
            whole.addAll(m.text(chance.nextInt(m.codes.size()), chance.nextInt(80000), hundreds, chance.nextBoolean()));
        }
        int[] at = chance.ints(chance.nextInt(9), 0, whole.size()).toArray();
        List<Integer> row = new ArrayList<>();
        int back = 0;
        int flip = 0;
        for (int i = 0; i < whole.size() && row.size() < 40; i++) {
            boolean isLost = false;
            for (int s : at) {
                int kind = s == i ? chance.nextInt(3) : 3;
                back += kind == 0 ? 1 : 0;
                flip ^= kind == 1 ? 1 : 0;
                isLost |= kind == 2;
            }
            int v = whole.get(i);
            int wheel = (v == 0 ? chance.nextInt(2) : Model.wheelOf(v)) ^ flip;
            if (!isLost) {
                row.add(Model.signOn(wheel, (Model.placeOf(v) + 28 - back) % 28));
            }
        }
        return row;
    }
}
