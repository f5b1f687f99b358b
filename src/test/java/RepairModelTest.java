import java.util.ArrayList;
import java.util.List;
import java.util.Random;

/** Repairs of rows with planted slips, and of rows by chance, held against the naive model's. */
public final class RepairModelTest {
    private static final Check CHECK = new Check();

    private final Random chance;
    private final TickerHouse x = new TickerHouse();
    private final Model m = new Model();

    private RepairModelTest(long seed) {
        chance = new Random(seed);
    }

    public static void main(String[] args) {
        int runs = args.length > 0 ? Integer.parseInt(args[0]) : 60;
        long first = args.length > 1 ? Long.parseLong(args[1]) : 1;
        for (long seed = first; seed < first + runs; seed++) {
            new RepairModelTest(seed).run("run " + seed);
        }
        CHECK.end();
    }

    private void run(String name) {
        int firms = 1 + chance.nextInt(4);
        for (int f = 0; f < firms; f++) {
            int[] code = new int[4];
            int n = 1 + chance.nextInt(3);
            for (int i = 0; i < n; i++) {
                code[i] = chance.nextInt(3) == 0 ? 1 + chance.nextInt(26) : 1 + chance.nextInt(3);
            }
            CHECK.due(name + ": firm", x.firm(code[0], code[1], code[2], code[3]), m.firm(code[0], code[1], code[2], code[3]));
        }
        List<Integer> row = chance.nextInt(4) == 0 ? byChance() : slipped();
        for (int v : row) {
            x.sign(v);
            m.sign(v);
        }
        String told = name + " of " + Model.chars(row) + ": ";
        m.seekRepair();
        CHECK.due(told + "repair", x.repair(), m.repairSlips);
        for (int i = 0; i <= m.repaired.size(); i++) {
            int want = i < m.repaired.size() ? m.repaired.get(i) : Model.NONE;
            CHECK.due(told + "repairAt(" + i + ")", x.repairAt(i), want);
        }
        CHECK.due(told + "mend", x.mend(), m.repairSlips == Model.NONE ? Model.NO : m.repaired.size());
        if (m.repairSlips != Model.NONE) {
            CHECK.due(told + "repair once mended", x.repair(), 0);
        }
    }

    private List<Integer> byChance() {
        List<Integer> row = new ArrayList<>();
        int n = chance.nextInt(5);
        for (int i = 0; i < n; i++) {
            row.add(chance.nextInt(55));
        }
        return row;
    }

    /** A whole row as a machine prints it that loses steps, shifts and prints. */
    private List<Integer> slipped() {
        List<Integer> whole = new ArrayList<>();
        int quotes = 1 + chance.nextInt(2);
        for (int q = 0; q < quotes; q++) {
            int hundreds = chance.nextBoolean() ? 1 : 2 + chance.nextInt(998);
            whole.addAll(m.text(chance.nextInt(m.codes.size()), chance.nextInt(80000), hundreds, chance.nextBoolean()));
        }
        int slips = chance.nextInt(4);
        int[] at = new int[slips];
        for (int i = 0; i < slips; i++) {
            at[i] = chance.nextInt(whole.size());
        }
        List<Integer> row = new ArrayList<>();
        int back = 0;
        int flip = 0;
        for (int i = 0; i < whole.size(); i++) {
            boolean lost = false;
            for (int s : at) {
                if (s == i) {
                    int kind = chance.nextInt(3);
                    back += kind == 0 ? 1 : 0;
                    flip ^= kind == 1 ? 1 : 0;
                    lost |= kind == 2;
                }
            }
            int v = whole.get(i);
            int wheel = (v == 0 ? chance.nextInt(2) : Model.wheelOf(v)) ^ flip;
            if (!lost) {
                row.add(Model.signOn(wheel, (Model.placeOf(v) + 28 - back) % 28));
            }
        }
        return row;
    }
}
