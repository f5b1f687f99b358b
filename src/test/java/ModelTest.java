import java.util.Random;

/** Runs of calls by chance (of fixed seeds) on TickerHouse and on the naive model, held against each other. */
public final class ModelTest {
    private static final Check CHECK = new Check();
    private static final String[] NAMES = {
        "machine", "alive", "line", "slip", "over", "pulse", "bring", "unison", "about", "ribbon", "wrong", "tear",
        "sign", "cut", "clear", "rowAt", "send", "firm", "shorts", "last", "write", "read", "readAt", "take",
        "add", "drop", "minutes", "most", "orderAt", "tape", "price", "repair", "repairAt", "mend",
        "cost", "often", "count", "digest"};
    // How often each call comes, in runs about the line, rows, the queue, and all together.
    private static final int[][] WEIGHTS = {
        {3, 2, 2, 8, 2, 20, 20, 4, 6, 4, 4, 1, 2, 2, 1, 1, 6, 0, 0, 0, 0, 0, 0, 0, 0, 0, 0, 0, 0, 0, 0, 0, 0, 0, 4, 1, 2, 2},
        {1, 0, 0, 1, 0, 2, 2, 1, 1, 1, 1, 1, 12, 2, 3, 4, 1, 6, 2, 4, 12, 12, 12, 4, 0, 0, 0, 0, 0, 0, 0, 0, 0, 0, 0, 0, 2, 2},
        {0, 0, 1, 0, 0, 0, 0, 0, 0, 0, 0, 0, 0, 0, 0, 0, 0, 4, 0, 0, 0, 0, 0, 0, 8, 1, 4, 8, 8, 12, 12, 0, 0, 0, 0, 0, 2, 2},
        {2, 1, 1, 3, 1, 8, 4, 1, 2, 2, 2, 1, 6, 3, 3, 2, 2, 3, 1, 1, 6, 3, 3, 2, 3, 1, 1, 1, 1, 1, 1, 0, 0, 0, 1, 1, 2, 2},
    };

    private final Random chance;
    private final TickerHouse x = new TickerHouse();
    private final Model m = new Model();

    private ModelTest(long seed) {
        chance = new Random(seed);
    }

    public static void main(String[] args) {
        int runs = args.length > 0 ? Integer.parseInt(args[0]) : 160;
        long first = args.length > 1 ? Long.parseLong(args[1]) : 1;
        for (long seed = first; seed < first + runs; seed++) {
            new ModelTest(seed).run("run " + seed, WEIGHTS[(int) (seed % WEIGHTS.length)], 400);
        }
        // The line's weights, with few pulses left, so that each call that sends meets the end of them.
        for (long seed = first; seed < first + runs / 4; seed++) {
            ModelTest late = new ModelTest(seed);
            late.useUpPulses("late run " + seed);
            late.run("late run " + seed, WEIGHTS[0], 300);
        }
        CHECK.end();
    }

    /** With rows of 1107 pulses or so; what is left then is enough for some calls and not for others. */
    private void useUpPulses(String name) {
        for (int i = 0; i < 40; i++) {
            int sign = 28 - i % 27;
            CHECK.due(name + ": sign", x.sign(sign), m.sign(sign));
        }
        CHECK.due(name + ": machine", x.machine(100, 1, 300), m.machine(100, 1, 300));
        int left = 1200 + chance.nextInt(2500);
        while (m.wire.pulses < 100001 - left) {
            CHECK.due(name + ": send", x.send(), m.send());
        }
        int kept = chance.nextInt(12);
        CHECK.due(name + ": clear", x.clear(), m.clear());
        for (int i = 0; i < kept; i++) {
            int sign = chance.nextInt(55);
            CHECK.due(name + ": sign", x.sign(sign), m.sign(sign));
        }
    }

    private void run(String name, int[] weights, int calls) {
        int all = 0;
        for (int w : weights) {
            all += w;
        }
        for (int call = 0; call < calls; call++) {
            int pick = chance.nextInt(all);
            int op = 0;
            while (pick >= weights[op]) {
                pick -= weights[op];
                op++;
            }
            ask(name + ", call " + call + ": ", NAMES[op]);
        }
        CHECK.due(name + ": digest", x.digest(), m.digest());
    }

    /** A number of 0 to most, now and then just outside or far outside. */
    private int upTo(int most) {
        int r = chance.nextInt(60);
        if (r == 0) {
            return -1;
        }
        if (r == 1) {
            return most + 1;
        }
        if (r == 2) {
            int[] far = {Integer.MIN_VALUE, Integer.MAX_VALUE, -2, 100001};
            return far[chance.nextInt(far.length)];
        }
        if (r < 7) {
            return r % 2 == 0 ? 0 : most;
        }
        return chance.nextInt(most + 1);
    }

    private int aMachine() {
        return chance.nextInt(4) == 0 ? Model.NONE : upTo(Math.max(0, m.wire.ms.size() - 1));
    }

    private int aFirm() {
        return upTo(Math.max(0, m.codes.size() - 1));
    }

    private int aSign() {
        // Those of quotes come more often, so that some rows can be read.
        switch (chance.nextInt(6)) {
            case 0: return upTo(54);
            case 1: return 0;
            case 2: return 1 + chance.nextInt(3);
            case 3: return 44;
            case 4: return 37 + chance.nextInt(7);
            default: return 27 + chance.nextInt(10);
        }
    }

    private int aPrice() {
        return chance.nextInt(3) == 0 ? upTo(79999) : chance.nextInt(3000);
    }

    private int aNumberOfShares() {
        return chance.nextInt(3) == 0 ? 1 : chance.nextBoolean() ? upTo(999) : 1 + chance.nextInt(20);
    }

    private void ask(String where, String name) {
        int a = 0, b = 0, c = 0, d = 0, e = 0;
        boolean is = chance.nextBoolean();
        switch (name) {
            case "machine": a = upTo(1000); b = upTo(20); c = chance.nextBoolean() ? upTo(600) : upTo(1000); break;
            case "alive": case "over": case "wrong": a = aMachine(); break;
            case "line": a = upTo(2000); b = upTo(200); c = chance.nextInt(3) == 0 ? upTo(50) : 1 + chance.nextInt(8); break;
            case "slip": a = aMachine(); b = chance.nextInt(4) == 0 ? upTo(100000) : m.wire.pulses + chance.nextInt(300); break;
            case "pulse": a = upTo(2); break;
            case "bring": case "sign": a = aSign(); break;
            case "about": a = aMachine(); b = upTo(6); break;
            case "ribbon": a = aMachine(); b = upTo(40); break;
            case "cut": a = aMachine(); b = upTo(10); c = upTo(8); break;
            case "rowAt": a = upTo(40); break;
            case "firm": a = upTo(3); b = upTo(2); c = chance.nextBoolean() ? 0 : upTo(26); d = chance.nextBoolean() ? 0 : upTo(26); break;
            case "last": a = aFirm(); break;
            case "write": a = aFirm(); b = aPrice(); c = aNumberOfShares(); break;
            case "read": a = upTo(2); break;
            case "readAt": a = upTo(3); b = upTo(2); break;
            case "add":
                a = chance.nextBoolean() ? upTo(20) : upTo(1000);
                b = chance.nextInt(8) == 0 ? upTo(2000) : a + chance.nextInt(16);
                c = aFirm();
                d = aPrice();
                e = aNumberOfShares();
                break;
            case "minutes": a = upTo(Math.max(0, m.queue.size() - 1)); break;
            case "most": a = chance.nextBoolean() ? upTo(20) : upTo(1000); b = upTo(1); break;
            case "orderAt": a = chance.nextBoolean() ? upTo(20) : upTo(1000); b = upTo(4); break;
            case "tape": a = chance.nextBoolean() ? upTo(60) : upTo(3000); b = upTo(2); break;
            case "price": a = aFirm(); b = chance.nextBoolean() ? upTo(60) : upTo(3000); c = upTo(1); break;
            case "cost": a = upTo(20); b = upTo(1000); break;
            case "often": a = chance.nextBoolean() ? upTo(1000) : upTo(30); break;
            case "count": a = upTo(7); break;
            default: break;
        }
        if (name.equals("most") && m.queue.size() > 7 && chance.nextInt(4) != 0) {
            name = "drop";
        }
        String call = where + name + "(" + a + ", " + b + ", " + c + ", " + d + ", " + e + ", " + is + ")";
        CHECK.due(call, house(name, a, b, c, d, e, is), model(name, a, b, c, d, e, is));
    }

    private long house(String name, int a, int b, int c, int d, int e, boolean is) {
        switch (name) {
            case "machine": return x.machine(a, b, c);
            case "alive": return x.alive(a, is);
            case "line": return x.line(a, b, c);
            case "slip": return x.slip(a, b);
            case "over": return x.over(a);
            case "pulse": return x.pulse(a);
            case "bring": return x.bring(a);
            case "unison": return x.unison();
            case "about": return x.about(a, b);
            case "ribbon": return x.ribbon(a, b);
            case "wrong": return x.wrong(a);
            case "tear": return x.tear();
            case "sign": return x.sign(a);
            case "cut": return x.cut(a, b, c);
            case "clear": return x.clear();
            case "rowAt": return x.rowAt(a);
            case "send": return x.send();
            case "firm": return x.firm(a, b, c, d);
            case "shorts": return x.shorts(is);
            case "last": return x.last(a);
            case "write": return x.write(a, b, c);
            case "read": return x.read(a);
            case "readAt": return x.readAt(a, b);
            case "take": return x.take();
            case "add": return x.add(a, b, c, d, e);
            case "drop": return x.drop();
            case "minutes": return x.minutes(a);
            case "most": return x.most(a, b);
            case "orderAt": return x.orderAt(a, b);
            case "tape": return x.tape(a, b);
            case "price": return x.price(a, b, c);
            case "cost": return x.cost(a, b);
            case "often": return x.often(a);
            case "count": return x.count(a);
            case "digest": return x.digest();
            default: throw new IllegalStateException(name);
        }
    }

    private long model(String name, int a, int b, int c, int d, int e, boolean is) {
        switch (name) {
            case "machine": return m.machine(a, b, c);
            case "alive": return m.alive(a, is);
            case "line": return m.line(a, b, c);
            case "slip": return m.slip(a, b);
            case "over": return m.over(a);
            case "pulse": return m.pulse(a);
            case "bring": return m.bring(a);
            case "unison": return m.unison();
            case "about": return m.about(a, b);
            case "ribbon": return m.ribbon(a, b);
            case "wrong": return m.wrong(a);
            case "tear": return m.tear();
            case "sign": return m.sign(a);
            case "cut": return m.cut(a, b, c);
            case "clear": return m.clear();
            case "rowAt": return m.rowAt(a);
            case "send": return m.send();
            case "firm": return m.firm(a, b, c, d);
            case "shorts": return m.shorts(is);
            case "last": return m.last(a);
            case "write": return m.write(a, b, c);
            case "read": return m.read(a);
            case "readAt": return m.readAt(a, b);
            case "take": return m.take();
            case "add": return m.add(a, b, c, d, e);
            case "drop": return m.drop();
            case "minutes": return m.minutes(a);
            case "most": return m.most(a, b);
            case "orderAt": return m.orderAt(a, b);
            case "tape": return m.tape(a, b);
            case "price": return m.price(a, b, c);
            case "cost": return m.cost(a, b);
            case "often": return m.often(a);
            case "count": return m.count(a);
            case "digest": return m.digest();
            default: throw new IllegalStateException(name);
        }
    }
}
