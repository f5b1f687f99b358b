/** Promises 1 to 39, one method each: the edges that their sentences name, from both sides. */
public final class EdgesOfPromisesTest {
    private static final Check C = new Check();
    private static final int NONE = TickerHouse.NONE, BAD = TickerHouse.BAD, NO = TickerHouse.NO, FULL = TickerHouse.FULL;
    private static final int MIN = Integer.MIN_VALUE, MAX = Integer.MAX_VALUE;
    private static final int STEP = 0, PRINT = 1, SHIFT = 2;
    private static final int D = 27, MARK = 44, STAR = 54;
    private static final int ALL_PULSES = 100001;

    public static void main(String[] args) {
        promise1();
        promise2();
        promise3();
        promise4();
        promise5();
        promise6();
        promise7();
        promise8();
        promise9();
        promise10();
        promise11();
        promise12();
        promise13();
        promise14();
        promise15();
        promise16();
        promise17();
        promise18();
        promise19();
        promise20();
        promise21();
        promise22();
        promise23();
        promise24();
        promise25();
        promise26();
        promise27();
        promise28();
        promise29();
        promise30();
        promise31();
        promise32();
        promise33();
        promise34();
        promise35();
        promise36();
        promise37();
        promise38();
        promise39();
        C.end();
    }

    private static void give(TickerHouse x, int kind, int times) {
        for (int i = 0; i < times; i++) {
            x.pulse(kind);
        }
    }

    private static void put(TickerHouse x, int... signs) {
        x.clear();
        for (int v : signs) {
            x.sign(v);
        }
    }

    private static TickerHouse withMachines(int n) {
        TickerHouse x = new TickerHouse();
        for (int i = 0; i < n; i++) {
            x.machine(0, 0, 0);
        }
        return x;
    }

    private static TickerHouse withFirms(int n) {
        TickerHouse x = new TickerHouse();
        for (int i = 0; i < n; i++) {
            x.firm(i + 1, 0, 0, 0);
        }
        return x;
    }

    /** An object on which so many pulses are left; its row is empty, its sender stands at place 0. */
    private static TickerHouse withPulsesLeft(int left) {
        TickerHouse x = withMachines(1);
        for (int i = 0; i < 40; i++) {
            x.sign(i < 26 ? 26 - i : 40 - i);
        }
        int given = 0;
        while (given < ALL_PULSES - 1105 - left - 65) {
            given += x.send();
        }
        x.clear();
        do {
            x.unison();
            given += 65;
        } while (given < ALL_PULSES - left - 65);
        give(x, PRINT, ALL_PULSES - left - given);
        C.due("pulses left", ALL_PULSES - x.count(1), left);
        return x;
    }

    // "No MACHINES, FIRMS, QUOTES, SLIPS; THE ROW is empty."
    private static void promise1() {
        TickerHouse x = new TickerHouse();
        C.due("machines", x.count(0), 0);
        C.due("slips", x.count(2), 0);
        C.due("the row", x.count(3), 0);
        C.due("firms", x.count(4), 0);
        C.due("quotes", x.count(5), 0);
        C.due("no machine", x.about(0, 0), BAD);
        C.due("no firm", x.last(0), BAD);
        C.due("no quote", x.minutes(0), BAD);
        C.due("no sign", x.rowAt(0), NONE);
        C.due("none cleared", x.clear(), 0);
        C.due("none dropped", x.drop(), 0);
        C.due("none torn", x.tear(), 0);
        C.due("the first pulse", x.pulse(STEP), 0);
        TickerHouse y = new TickerHouse();
        C.due("each object is of its own", y.count(1), 0);
    }

    // "A MACHINE (as at first; it stands as a new one): its number. BAD; FULL: 8."
    private static void promise2() {
        TickerHouse x = new TickerHouse();
        int[] below = {-1, MIN};
        for (int v : below) {
            C.due("length", x.machine(v, 0, 0), BAD);
            C.due("dull", x.machine(0, v, 0), BAD);
            C.due("need", x.machine(0, 0, v), BAD);
        }
        C.due("length 1001", x.machine(1001, 0, 0), BAD);
        C.due("length", x.machine(MAX, 0, 0), BAD);
        C.due("dull 21", x.machine(0, 21, 0), BAD);
        C.due("dull", x.machine(0, MAX, 0), BAD);
        C.due("need 1001", x.machine(0, 0, 1001), BAD);
        C.due("need", x.machine(0, 0, MAX), BAD);
        C.due("none yet", x.count(0), 0);
        C.due("the least of all", x.machine(0, 0, 0), 0);
        C.due("the longest wire", x.machine(1000, 0, 0), 1);
        C.due("the dullest", x.machine(0, 20, 0), 2);
        C.due("the greatest need", x.machine(0, 0, 1000), 3);
        C.due("1000 less 500", x.over(1), 500);
        C.due("1000 less 100", x.over(2), 900);
        C.due("1000 less 1000", x.over(3), 0);
        x.bring(D + 3);
        give(x, STEP, 56);
        C.due("a new one", x.machine(0, 0, 0), 4);
        int[] atFirst = {0, 0, 0, 0, 0, 0, 1};
        for (int what = 0; what < 7; what++) {
            C.due("a new one: about(4, " + what + ")", x.about(4, what), atFirst[what]);
        }
        C.due("the sixth", x.machine(0, 0, 0), 5);
        C.due("the seventh", x.machine(0, 0, 0), 6);
        C.due("the eighth", x.machine(0, 0, 0), 7);
        C.due("a ninth", x.machine(0, 0, 0), FULL);
        C.due("eight", x.count(0), 8);
        C.due("no number 8", x.about(8, 0), BAD);
        C.due("number 7", x.about(7, 0), 0);
    }

    // "A MACHINE is ALIVE, or not: 1. BAD; NO: it is so."
    private static void promise3() {
        TickerHouse x = withMachines(2);
        int[] none = {-1, 2, MIN, MAX};
        for (int m : none) {
            C.due("no machine " + m, x.alive(m, true), BAD);
            C.due("no machine " + m, x.alive(m, false), BAD);
        }
        C.due("it is alive at first", x.alive(1, true), NO);
        C.due("it is not", x.alive(1, false), 1);
        C.due("it is not already", x.alive(1, false), NO);
        C.due("the other one is", x.about(0, 6), 1);
        C.due("it is again", x.alive(1, true), 1);
        C.due("it is already", x.alive(1, true), NO);
        C.due("told", x.about(1, 6), 1);
    }

    // "POWER, LOSS, PACE: 1. BAD."
    private static void promise4() {
        TickerHouse x = new TickerHouse();
        x.machine(1000, 10, 0);
        int[][] bad = {{-1, 50, 5}, {2001, 50, 5}, {1000, -1, 5}, {1000, 201, 5}, {1000, 50, 0}, {1000, 50, 51},
            {MIN, 0, 1}, {MAX, 0, 1}, {0, MIN, 1}, {0, MAX, 1}, {0, 0, MIN}, {0, 0, MAX}, {0, 0, -1}};
        for (int[] b : bad) {
            C.due("line(" + b[0] + ", " + b[1] + ", " + b[2] + ")", x.line(b[0], b[1], b[2]), BAD);
            C.due("1000 less 500 less 50: as at first", x.over(0), 450);
            C.due("pace 5, as at first", x.count(6), 5);
        }
        C.due("the least", x.line(0, 0, 1), 1);
        C.due("0 less 0 less 10", x.over(0), -10);
        C.due("pace", x.count(6), 1);
        C.due("the greatest", x.line(2000, 200, 50), 1);
        C.due("2000 less 2000 less 500", x.over(0), -500);
        C.due("pace", x.count(6), 50);
        C.due("the same again", x.line(2000, 200, 50), 1);
    }

    // "A SLIP of a MACHINE at a PULSE (0 .. 100000): how many. BAD; FULL: 40. (Also of PULSES that were.)"
    private static void promise5() {
        TickerHouse x = withMachines(2);
        int[] none = {-1, 2, MIN, MAX};
        for (int m : none) {
            C.due("no machine " + m, x.slip(m, 0), BAD);
        }
        int[] bad = {-1, 100001, MIN, MAX};
        for (int p : bad) {
            C.due("no pulse " + p, x.slip(0, p), BAD);
        }
        C.due("none told", x.count(2), 0);
        x.bring(3);
        long before = x.digest();
        C.due("the first pulse, that was", x.slip(0, 0), 1);
        C.due("what was stays as it was", x.ribbon(0, 0), 3);
        C.due("what was stays as it was", x.about(0, 5), 0);
        C.due("only their number is other", x.digest() != before ? 1 : 0, 1);
        C.due("the last pulse", x.slip(0, 100000), 2);
        for (int i = 3; i <= 39; i++) {
            C.due("the " + i + "-th", x.slip(i % 2, 2 * i), i);
        }
        C.due("the fortieth", x.slip(1, 4), 40);
        C.due("one more", x.slip(1, 5), FULL);
        C.due("one more, the same again", x.slip(1, 4), FULL);
        C.due("forty", x.count(2), 40);
        x.pulse(STEP);
        C.due("the fortieth counts", x.about(1, 0), 3);
        x.pulse(STEP);
        C.due("the one that was refused does not", x.about(1, 0), 4);
        C.due("of the other none counts", x.about(0, 0), 5);
    }

    // "What a MACHINE gets the next PULSE with, over what it needs (below 0: it does not get it; SLIPS not looked at).
    //  BAD: -100000."
    private static void promise6() {
        TickerHouse x = new TickerHouse();
        C.due("no machine", x.over(0), -100000);
        x.machine(100, 10, 900);
        int[] none = {-1, 1, MIN, MAX};
        for (int m : none) {
            C.due("no machine " + m, x.over(m), -100000);
        }
        C.due("1000 - 50 - 50 - 900", x.over(0), 0);
        x.pulse(STEP);
        C.due("0: it gets it", x.about(0, 0), 1);
        x.line(999, 50, 5);
        C.due("-1", x.over(0), -1);
        x.pulse(STEP);
        C.due("below 0: it does not get it", x.about(0, 0), 1);
        x.line(1001, 50, 5);
        x.slip(0, 2);
        C.due("slips are not looked at", x.over(0), 1);
        x.pulse(STEP);
        C.due("a slip", x.about(0, 0), 1);
        x.pulse(STEP);
        C.due("no slip", x.about(0, 0), 2);
    }

    // "A PULSE of a KIND (0 .. 2): its number. BAD; FULL: 100001 PULSES."
    private static void promise7() {
        TickerHouse x = new TickerHouse();
        int[] bad = {-1, 3, MIN, MAX};
        for (int kind : bad) {
            C.due("kind " + kind, x.pulse(kind), BAD);
        }
        for (int kind = 0; kind < 3; kind++) {
            C.due("kind " + kind, x.pulse(kind), kind);
        }
        C.due("three", x.count(1), 3);
        TickerHouse y = withPulsesLeft(2);
        C.due("the last but one", y.pulse(STEP), 99999);
        C.due("the last", y.pulse(PRINT), 100000);
        C.due("all of them", y.count(1), 100001);
        int printed = y.about(NONE, 4);
        for (int kind = 0; kind < 3; kind++) {
            C.due("none is left", y.pulse(kind), FULL);
        }
        C.due("nothing is changed", y.about(NONE, 0), 1);
        C.due("nothing is changed", y.about(NONE, 1), 0);
        C.due("nothing is changed", y.about(NONE, 2), 0);
        C.due("nothing is changed", y.about(NONE, 4), printed);
        C.due("still all of them", y.count(1), 100001);
    }

    // "A SIGN (0 .. 54) is brought: how many PULSES. BAD; FULL: not all of them have room."
    private static void promise8() {
        TickerHouse x = new TickerHouse();
        int[] bad = {-1, 55, MIN, MAX};
        for (int v : bad) {
            C.due("sign " + v, x.bring(v), BAD);
        }
        C.due("none is given", x.count(1), 0);
        C.due("sign 0", x.bring(0), 1);
        C.due("sign 54", x.bring(STAR), 28);
        TickerHouse y = withPulsesLeft(5);
        C.due("six are needed", y.bring(5), FULL);
        C.due("with a shift six", y.bring(D + 3), FULL);
        C.due("nothing is changed", y.about(NONE, 0), 0);
        C.due("nothing is changed", y.about(NONE, 1), 0);
        C.due("nothing is changed", y.about(0, 0), 0);
        C.due("nothing is changed", y.count(1), ALL_PULSES - 5);
        C.due("with a shift five", y.bring(D + 2), 5);
        C.due("none is left", y.bring(D + 2), FULL);
        TickerHouse z = withPulsesLeft(60);
        give(z, STEP, 56);
        C.due("four left, stopped: a blank, three steps, print", z.bring(3), FULL);
        C.due("still stopped", z.about(NONE, 3), 1);
        C.due("a blank, two steps, print", z.bring(2), 4);
    }

    // "UNISON: how many MACHINES that are ALIVE stand as THE SENDER does then (PLACE, WHEEL). FULL likewise."
    private static void promise9() {
        TickerHouse x = withMachines(3);
        x.bring(7);
        C.due("all three", x.unison(), 3);
        x.alive(1, false);
        C.due("it stands at place 0 on letters but is not alive", x.unison(), 2);
        x.alive(1, true);
        x.alive(2, false);
        x.pulse(SHIFT);
        x.alive(2, true);
        x.line(0, 50, 5);
        x.machine(0, 0, 1);
        x.machine(0, 0, 1);
        x.alive(4, false);
        // 0 and 1 have no need and get all; 3 gets nothing and stands at place 0 on letters; 4 is not alive.
        C.due("0, 1, 2, 3", x.unison(), 4);
        TickerHouse w = new TickerHouse();
        w.machine(0, 0, 1);
        w.pulse(STEP);
        w.line(0, 50, 5);
        C.due("another place", w.unison(), 0);
        TickerHouse v = new TickerHouse();
        v.machine(0, 0, 1);
        v.pulse(SHIFT);
        v.line(0, 50, 5);
        C.due("another wheel", v.unison(), 0);
        TickerHouse y = withPulsesLeft(65);
        C.due("room for all", y.unison(), 1);
        C.due("none is left", y.count(1), ALL_PULSES);
        TickerHouse z = withPulsesLeft(64);
        z.pulse(SHIFT);
        C.due("63 are too few", z.unison(), FULL);
        C.due("nothing is changed", z.about(NONE, 1), 1);
        C.due("nothing is changed", z.about(0, 1), 1);
        TickerHouse u = withPulsesLeft(64);
        C.due("64 are too few", u.unison(), FULL);
        C.due("nothing is changed", u.count(1), ALL_PULSES - 64);
    }

    // "Of a MACHINE (NONE: THE SENDER): 0 PLACE, .. 6 whether it is ALIVE. BAD."
    private static void promise10() {
        TickerHouse x = withMachines(2);
        int[] none = {-2, 2, MIN, MAX};
        for (int m : none) {
            C.due("no machine " + m, x.about(m, 0), BAD);
        }
        int[] bad = {-1, 7, MIN, MAX};
        for (int what : bad) {
            C.due("what " + what, x.about(0, what), BAD);
            C.due("what " + what, x.about(NONE, what), BAD);
        }
        x.slip(1, 0);
        x.bring(D + 4);
        x.bring(D + 6);
        give(x, STEP, 3);
        x.alive(1, false);
        int[][] want = {{10, 1, 3, 0, 2, 0, 1}, {10, 1, 3, 0, 2, 0, 1}, {10, 0, 3, 0, 2, 1, 0}};
        for (int m = NONE; m < 2; m++) {
            for (int what = 0; what < 7; what++) {
                C.due("about(" + m + ", " + what + ")", x.about(m, what), want[m + 1][what]);
            }
        }
        give(x, STEP, 53);
        C.due("stopped", x.about(0, 3), 1);
        C.due("not stopped, as it is not alive", x.about(1, 3), 0);
        C.due("not got", x.about(1, 5), 54);
    }

    // "SIGN i of a RIBBON. NONE: not so many. BAD: i below 0, too."
    private static void promise11() {
        TickerHouse x = withMachines(1);
        C.due("an empty one", x.ribbon(NONE, 0), NONE);
        x.bring(3);
        x.bring(D);
        for (int m = NONE; m < 1; m++) {
            C.due("the first", x.ribbon(m, 0), 3);
            C.due("the last", x.ribbon(m, 1), D);
            C.due("not so many", x.ribbon(m, 2), NONE);
            C.due("not so many", x.ribbon(m, 299), NONE);
            C.due("not so many", x.ribbon(m, 300), NONE);
            C.due("not so many", x.ribbon(m, MAX), NONE);
            C.due("below 0", x.ribbon(m, -1), BAD);
            C.due("below 0", x.ribbon(m, MIN), BAD);
        }
        int[] none = {-2, 1, MIN, MAX};
        for (int m : none) {
            C.due("no machine " + m, x.ribbon(m, 0), BAD);
            C.due("no machine " + m + ", not so many", x.ribbon(m, 2), BAD);
        }
    }

    // "WRONG SIGNS of a whole RIBBON against THE SENDER's. BAD: THE SENDER, too."
    private static void promise12() {
        TickerHouse x = withMachines(1);
        int[] none = {NONE, 1, -2, MIN, MAX};
        for (int m : none) {
            C.due("no machine " + m, x.wrong(m), BAD);
        }
        C.due("both are empty", x.wrong(0), 0);
        give(x, PRINT, 2);
        C.due("the same", x.wrong(0), 0);
        x.slip(0, 2);
        x.pulse(PRINT);
        C.due("one more at the sender's", x.wrong(0), 1);
        x.bring(1);
        C.due("its third differs, one more", x.wrong(0), 2);
        x.alive(0, false);
        C.due("alive or not", x.wrong(0), 2);
        x.bring(1);
        C.due("two more", x.wrong(0), 3);
        x.machine(0, 0, 0);
        C.due("none of five", x.wrong(1), 5);
    }

    // "All RIBBONS are torn off (empty): how many SIGNS THE SENDER's had."
    private static void promise13() {
        TickerHouse x = withMachines(2);
        C.due("none", x.tear(), 0);
        x.slip(0, 5);
        x.bring(D + 3);
        x.bring(D + 3);
        x.alive(1, false);
        x.bring(D + 3);
        C.due("the sender's", x.tear(), 3);
        int[][] want = {{4, 1, 0, 0, 0, 0, 1}, {4, 1, 0, 0, 0, 1, 1}, {4, 1, 0, 0, 0, 1, 0}};
        for (int m = NONE; m < 2; m++) {
            C.due("empty", x.ribbon(m, 0), NONE);
            for (int what = 0; what < 7; what++) {
                C.due("all else stays: about(" + m + ", " + what + ")", x.about(m, what), want[m + 1][what]);
            }
        }
        C.due("pulses stay", x.count(1), 8);
        C.due("none again", x.tear(), 0);
        C.due("nothing to cut", x.cut(NONE, 0, 1), BAD);
        TickerHouse y = withMachines(8);
        y.bring(6);
        C.due("the sender's", y.tear(), 1);
        for (int m = NONE; m < 8; m++) {
            C.due("all eight", y.about(m, 4), 0);
        }
        TickerHouse z = new TickerHouse();
        z.bring(6);
        C.due("without machines", z.tear(), 1);
    }

    // "A SIGN behind THE ROW: how many. BAD; FULL: 40."
    private static void promise14() {
        TickerHouse x = new TickerHouse();
        int[] bad = {-1, 55, MIN, MAX};
        for (int v : bad) {
            C.due("sign " + v, x.sign(v), BAD);
        }
        C.due("the row is empty", x.count(3), 0);
        C.due("sign 54", x.sign(STAR), 1);
        for (int i = 2; i <= 39; i++) {
            C.due("sign 0", x.sign(0), i);
        }
        C.due("the fortieth", x.sign(7), 40);
        C.due("one more", x.sign(8), FULL);
        C.due("forty", x.count(3), 40);
        C.due("the first", x.rowAt(0), STAR);
        C.due("the last", x.rowAt(39), 7);
    }

    // "n SIGNS of a RIBBON (NONE: THE SENDER's) from one on come behind THE ROW: how many it has. BAD: also not so
    //  many; FULL."
    private static void promise15() {
        TickerHouse x = withMachines(1);
        C.due("none of none", x.cut(0, 0, 0), 0);
        C.due("one of none", x.cut(0, 0, 1), BAD);
        for (int v = 1; v <= 26; v++) {
            x.bring(v);
        }
        int[][] bad = {{-2, 0, 1}, {1, 0, 1}, {MIN, 0, 1}, {MAX, 0, 1}, {0, -1, 1}, {0, MIN, 1}, {0, 0, -1}, {0, 5, -1},
            {0, 0, MIN}, {0, 26, 1}, {0, 25, 2}, {0, 0, 27}, {0, 27, 0}, {0, 1, MAX}, {0, MAX, 1}, {0, MAX, MAX},
            {NONE, 26, 1}, {NONE, -1, 1}, {NONE, 0, 27}};
        for (int[] b : bad) {
            C.due("cut(" + b[0] + ", " + b[1] + ", " + b[2] + ")", x.cut(b[0], b[1], b[2]), BAD);
        }
        C.due("the row is empty", x.count(3), 0);
        C.due("the last", x.cut(0, 25, 1), 1);
        C.due("all of the sender's", x.cut(NONE, 0, 26), 27);
        C.due("fourteen have no room", x.cut(0, 3, 14), FULL);
        C.due("not so many, and no room", x.cut(0, 20, 14), BAD);
        C.due("27", x.count(3), 27);
        C.due("thirteen have", x.cut(0, 3, 13), 40);
        C.due("none has, too", x.cut(0, 3, 0), 40);
        C.due("one has not", x.cut(0, 3, 1), FULL);
        C.due("the first", x.rowAt(0), 26);
        C.due("the second", x.rowAt(1), 1);
        C.due("the first of thirteen", x.rowAt(27), 4);
        C.due("the last of thirteen", x.rowAt(39), 16);
    }

    // "THE ROW is empty: how many it had."
    private static void promise16() {
        TickerHouse x = new TickerHouse();
        C.due("none", x.clear(), 0);
        x.sign(5);
        C.due("one", x.clear(), 1);
        C.due("no sign", x.rowAt(0), NONE);
        for (int i = 0; i < 40; i++) {
            x.sign(1);
        }
        C.due("forty", x.clear(), 40);
        C.due("none again", x.clear(), 0);
        C.due("room again", x.sign(2), 1);
        C.due("the sign", x.rowAt(0), 2);
        C.due("not those that were", x.rowAt(1), NONE);
    }

    // "SIGN i of THE ROW. NONE: not so many."
    private static void promise17() {
        TickerHouse x = new TickerHouse();
        C.due("none", x.rowAt(0), NONE);
        put(x, STAR, 0);
        C.due("the first", x.rowAt(0), STAR);
        C.due("the last", x.rowAt(1), 0);
        int[] none = {2, 39, 40, MAX, -1, MIN};
        for (int i : none) {
            C.due("not so many: " + i, x.rowAt(i), NONE);
        }
    }

    // "THE ROW is brought: how many PULSES. FULL likewise."
    private static void promise18() {
        TickerHouse x = new TickerHouse();
        C.due("an empty row", x.send(), 0);
        C.due("no pulse", x.count(1), 0);
        TickerHouse y = withPulsesLeft(5);
        put(y, 1, 3);
        C.due("two and three: just room", y.send(), 5);
        C.due("none is left", y.count(1), ALL_PULSES);
        C.due("no room", y.send(), FULL);
        y.clear();
        C.due("an empty row has room", y.send(), 0);
        TickerHouse z = withPulsesLeft(5);
        put(z, 1, 4);
        C.due("two and four: not all have room", z.send(), FULL);
        C.due("the first one is not brought, either", z.count(1), ALL_PULSES - 5);
        C.due("nothing is changed", z.about(NONE, 0), 0);
        C.due("nothing is changed", z.about(0, 0), 0);
        C.due("the row stays", z.count(3), 2);
    }

    // "A FIRM by letters (0: none, and none behind it): its number. BAD; NO: its CODE is another one's; FULL: 12."
    private static void promise19() {
        TickerHouse x = new TickerHouse();
        int[][] bad = {{0, 0, 0, 0}, {0, 1, 0, 0}, {0, 0, 0, 1}, {1, 0, 1, 0}, {1, 0, 0, 1}, {1, 1, 0, 1}, {27, 0, 0, 0},
            {1, 27, 0, 0}, {1, 1, 27, 0}, {1, 1, 1, 27}, {-1, 0, 0, 0}, {1, -1, 0, 0}, {1, 1, -1, 0}, {1, 1, 1, -1},
            {MIN, 1, 1, 1}, {1, MIN, 1, 1}, {1, 1, MAX, 1}, {1, 1, 1, MAX}, {1, 0, -1, 0}, {1, 0, 0, -1}};
        for (int[] b : bad) {
            C.due("firm(" + b[0] + ", " + b[1] + ", " + b[2] + ", " + b[3] + ")", x.firm(b[0], b[1], b[2], b[3]), BAD);
        }
        C.due("none yet", x.count(4), 0);
        int[][] codes = {{1, 0, 0, 0}, {1, 1, 0, 0}, {1, 1, 1, 0}, {1, 1, 1, 1}, {26, 0, 0, 0}, {26, 26, 26, 26},
            {1, 2, 0, 0}, {2, 1, 0, 0}, {1, 1, 2, 0}, {1, 1, 1, 2}, {2, 0, 0, 0}};
        for (int i = 0; i < codes.length; i++) {
            int[] c = codes[i];
            C.due("firm " + i, x.firm(c[0], c[1], c[2], c[3]), i);
        }
        for (int[] c : codes) {
            C.due("another one's", x.firm(c[0], c[1], c[2], c[3]), NO);
        }
        C.due("the twelfth", x.firm(3, 0, 0, 0), 11);
        C.due("one more", x.firm(4, 0, 0, 0), FULL);
        C.due("twelve", x.count(4), 12);
        C.due("no number 12", x.last(12), BAD);
    }

    // "SHORTS are on, or off: 1."
    private static void promise20() {
        TickerHouse x = new TickerHouse();
        boolean[] calls = {false, true, true, false, false, true};
        for (boolean on : calls) {
            C.due("shorts(" + on + ")", x.shorts(on), 1);
            C.due("told", x.count(7), on ? 1 : 0);
        }
    }

    // "LAST price of a FIRM. NONE. BAD."
    private static void promise21() {
        TickerHouse x = withFirms(2);
        int[] none = {-1, 2, MIN, MAX};
        for (int f : none) {
            C.due("no firm " + f, x.last(f), BAD);
        }
        C.due("none at first", x.last(0), NONE);
        x.write(0, 0, 1);
        C.due("0 is one", x.last(0), 0);
        C.due("of the other none", x.last(1), NONE);
        x.write(0, 79999, 1);
        C.due("the greatest", x.last(0), 79999);
        x.clear();
        C.due("it stays without the row", x.last(0), 79999);
    }

    // "A QUOTE's TEXT comes behind THE ROW (SHORT where it is allowed); its price is the LAST then: how many SIGNS it
    //  has. BAD; FULL: THE ROW."
    private static void promise22() {
        TickerHouse x = withFirms(1);
        int[][] bad = {{-1, 0, 1}, {1, 0, 1}, {MIN, 0, 1}, {MAX, 0, 1}, {0, -1, 1}, {0, 80000, 1}, {0, MIN, 1},
            {0, MAX, 1}, {0, 0, 0}, {0, 0, 1000}, {0, 0, -1}, {0, 0, MIN}, {0, 0, MAX}};
        for (int[] b : bad) {
            C.due("write(" + b[0] + ", " + b[1] + ", " + b[2] + ")", x.write(b[0], b[1], b[2]), BAD);
        }
        C.due("the row is empty", x.count(3), 0);
        C.due("no last price", x.last(0), NONE);
        C.due("the least", x.write(0, 0, 1), 5);
        C.due("the greatest", x.write(0, 79999, 999), 11);
        C.due("behind one another", x.rowAt(5), 1);
        put(x, new int[35]);
        C.due("six have no room", x.write(0, 801, 1), FULL);
        C.due("the last price stays", x.last(0), 79999);
        C.due("the row stays", x.count(3), 35);
        C.due("five have", x.write(0, 800, 1), 5);
        C.due("the last price", x.last(0), 800);
        put(x, new int[36]);
        C.due("five have none", x.write(0, 808, 1), FULL);
        C.due("the last price stays", x.last(0), 800);
        x.shorts(true);
        C.due("four have: short", x.write(0, 808, 1), 4);
        C.due("full, too", x.write(0, 808, 1), FULL);
        put(x, new int[36]);
        C.due("short where it is allowed: not here", x.write(0, 1600, 1), FULL);
    }

    // "THE ROW READ: how many QUOTES (what = 0); the FAULT's place (1), sort (2) (NONE: none). BAD."
    private static void promise23() {
        TickerHouse x = withFirms(1);
        int[] bad = {-1, 3, MIN, MAX};
        for (int what : bad) {
            C.due("what " + what, x.read(what), BAD);
        }
        int[] empty = {0, NONE, NONE};
        int[] fault = {1, 6, 4};
        for (int what = 0; what < 3; what++) {
            C.due("an empty row", x.read(what), empty[what]);
        }
        put(x, 1, D, D, D, 0, 1);
        for (int what = 0; what < 3; what++) {
            C.due("one, and a fault", x.read(what), fault[what]);
        }
        C.due("reading tells nothing", x.last(0), NONE);
        x.sign(STAR);
        C.due("the row as it is now", x.read(2), 1);
        x.clear();
        C.due("the row as it is now", x.read(2), NONE);
    }

    // "Of the i-th QUOTE READ: 0 the firm, 1 its price, 2 its hundreds of shares. NONE: not so many. BAD: i below 0,
    //  too."
    private static void promise24() {
        TickerHouse x = withFirms(2);
        int[] bad = {-1, 3, MIN, MAX};
        for (int what : bad) {
            C.due("what " + what, x.readAt(0, what), BAD);
        }
        C.due("i below 0", x.readAt(-1, 0), BAD);
        C.due("i below 0", x.readAt(MIN, 0), BAD);
        C.due("none", x.readAt(0, 0), NONE);
        put(x, 2, D + 1, D, D, MARK, D + 1, D, 0, 1, D, D, D, 0, STAR);
        int[][] want = {{1, 800, 10}, {0, 0, 1}, {NONE, NONE, NONE}};
        for (int i = 0; i < 3; i++) {
            for (int what = 0; what < 3; what++) {
                C.due("readAt(" + i + ", " + what + ")", x.readAt(i, what), want[i][what]);
            }
        }
        C.due("not so many", x.readAt(40, 0), NONE);
        C.due("not so many", x.readAt(MAX, 2), NONE);
        C.due("not so many, of what is not", x.readAt(MAX, 3), BAD);
        x.clear();
        C.due("the row as it is now", x.readAt(0, 0), NONE);
    }

    // "THE ROW's QUOTES are told: LAST prices are as READ: how many. NO: it has a FAULT."
    private static void promise25() {
        TickerHouse x = withFirms(2);
        C.due("an empty row", x.take(), 0);
        put(x, new int[40]);
        C.due("forty blanks", x.take(), 0);
        put(x, 1, D + 1, D, D, 0, 1, D + 5, D, 0);
        C.due("two of one firm", x.take(), 2);
        C.due("the later one", x.last(0), 1200);
        C.due("of the other none", x.last(1), NONE);
        C.due("the row stays", x.count(3), 9);
        int[][] faults = {{1, D, D, D, 0, STAR}, {1, D, D, D, 0, 3, D}, {1, D, D, D, 0, 2, D, D, 0}, {1, D, D, D, 0, 1}};
        for (int sort = 1; sort <= 4; sort++) {
            put(x, faults[sort - 1]);
            C.due("the fault's sort", x.read(2), sort);
            C.due("a fault of sort " + sort, x.take(), NO);
            C.due("none is told, not even the first", x.last(0), 1200);
        }
        put(x, 1, D, D, D, 0);
        C.due("one", x.take(), 1);
        C.due("price 0", x.last(0), 0);
        C.due("again", x.take(), 1);
    }

    // "A QUOTE in THE QUEUE: its number. BAD: also due below its minute (due up to 2000); FULL: 12."
    private static void promise26() {
        TickerHouse x = withFirms(1);
        int[][] bad = {{-1, 5, 0, 0, 1}, {1001, 1001, 0, 0, 1}, {MIN, 5, 0, 0, 1}, {MAX, MAX, 0, 0, 1}, {1, 0, 0, 0, 1},
            {1000, 999, 0, 0, 1}, {0, -1, 0, 0, 1}, {0, 2001, 0, 0, 1}, {0, MIN, 0, 0, 1}, {0, MAX, 0, 0, 1},
            {0, 5, -1, 0, 1}, {0, 5, 1, 0, 1}, {0, 5, MIN, 0, 1}, {0, 5, MAX, 0, 1}, {0, 5, 0, -1, 1},
            {0, 5, 0, 80000, 1}, {0, 5, 0, MIN, 1}, {0, 5, 0, MAX, 1}, {0, 5, 0, 0, 0}, {0, 5, 0, 0, 1000},
            {0, 5, 0, 0, MIN}, {0, 5, 0, 0, MAX}};
        for (int[] b : bad) {
            C.due("add(" + b[0] + ", " + b[1] + ", " + b[2] + ", " + b[3] + ", " + b[4] + ")",
                x.add(b[0], b[1], b[2], b[3], b[4]), BAD);
        }
        C.due("none yet", x.count(5), 0);
        C.due("due at its minute", x.add(0, 0, 0, 0, 1), 0);
        C.due("due at its minute, the last", x.add(1000, 1000, 0, 79999, 999), 1);
        C.due("due at 2000", x.add(1000, 2000, 0, 0, 1), 2);
        for (int q = 3; q <= 11; q++) {
            C.due("quote " + q, x.add(0, 2000, 0, 0, 1), q);
        }
        C.due("one more", x.add(0, 0, 0, 0, 1), FULL);
        C.due("twelve", x.count(5), 12);
        C.due("no last price", x.last(0), NONE);
        C.due("the row is empty", x.count(3), 0);
    }

    // "THE QUEUE is empty: how many it had."
    private static void promise27() {
        TickerHouse x = withFirms(1);
        C.due("none", x.drop(), 0);
        for (int n = 1; n <= 12; n += 11) {
            for (int q = 0; q < n; q++) {
                x.add(0, 100, 0, 0, 1);
            }
            C.due("how many", x.drop(), n);
            C.due("none again", x.drop(), 0);
            C.due("none in time", x.most(0, 0), 0);
            C.due("none told", x.tape(0, 0), NONE);
        }
        C.due("firms stay", x.count(4), 1);
    }

    // "How many minutes a QUOTE in THE QUEUE takes. BAD."
    private static void promise28() {
        TickerHouse x = withFirms(1);
        C.due("none", x.minutes(0), BAD);
        x.add(0, 0, 0, 0, 1);
        int[] none = {-1, 1, 12, MIN, MAX};
        for (int q : none) {
            C.due("no quote " + q, x.minutes(q), BAD);
        }
        C.due("35 by 50", x.minutes(0), 1);
        x.line(1000, 50, 1);
        C.due("35 by 10", x.minutes(0), 4);
        x.drop();
        C.due("none again", x.minutes(0), BAD);
    }

    // "THE MOST IN TIME from a minute (0 .. 1000) on: the set (what = 0), the minute at which it is done (1; of none
    //  the one from which on). BAD."
    private static void promise29() {
        TickerHouse x = withFirms(1);
        int[] bad = {-1, 1001, MIN, MAX};
        for (int from : bad) {
            C.due("from " + from, x.most(from, 0), BAD);
            C.due("from " + from, x.most(from, 1), BAD);
        }
        int[] what = {-1, 2, MIN, MAX};
        for (int w : what) {
            C.due("what " + w, x.most(0, w), BAD);
        }
        C.due("of none", x.most(0, 1), 0);
        C.due("of none", x.most(1000, 1), 1000);
        for (int q = 0; q < 12; q++) {
            x.add(1000, 2000, 0, 0, 1);
        }
        C.due("all twelve", x.most(0, 0), 4095);
        C.due("done", x.most(0, 1), 1012);
        C.due("all twelve, from 1000 on", x.most(1000, 0), 4095);
        C.due("done", x.most(1000, 1), 1012);
        x.drop();
        C.due("of none again", x.most(1000, 0), 0);
        C.due("of none again", x.most(1000, 1), 1000);
    }

    // "The i-th QUOTE of THE ORDER. NONE: not so many. BAD: i below 0, too."
    private static void promise30() {
        TickerHouse x = withFirms(1);
        int[] bad = {-1, 1001, MIN, MAX};
        for (int from : bad) {
            C.due("from " + from, x.orderAt(from, 0), BAD);
        }
        C.due("i below 0", x.orderAt(0, -1), BAD);
        C.due("i below 0", x.orderAt(0, MIN), BAD);
        C.due("none", x.orderAt(0, 0), NONE);
        for (int q = 0; q < 12; q++) {
            x.add(1000, 2000, 0, 0, 1);
        }
        for (int q = 0; q < 12; q++) {
            C.due("the " + q + "-th", x.orderAt(1000, q), q);
        }
        C.due("not so many", x.orderAt(1000, 12), NONE);
        C.due("not so many", x.orderAt(0, MAX), NONE);
        C.due("the last", x.orderAt(1000, 11), 11);
        x.drop();
        C.due("none again", x.orderAt(1000, 0), NONE);
    }

    // "TAPE at a minute (0 .. 3000), begun at minute 0: 0 which QUOTE is being told (NONE), 1 how many that came wait,
    //  2 how many minutes it began behind its coming (0: none). BAD."
    private static void promise31() {
        TickerHouse x = withFirms(1);
        int[] bad = {-1, 3001, MIN, MAX};
        for (int minute : bad) {
            C.due("minute " + minute, x.tape(minute, 0), BAD);
        }
        int[] what = {-1, 3, MIN, MAX};
        for (int w : what) {
            C.due("what " + w, x.tape(0, w), BAD);
        }
        int[] none = {NONE, 0, 0};
        for (int w = 0; w < 3; w++) {
            C.due("none at 0", x.tape(0, w), none[w]);
            C.due("none at 3000", x.tape(3000, w), none[w]);
        }
        x.add(0, 0, 0, 0, 1);
        x.add(0, 0, 0, 0, 1);
        int[] first = {0, 1, 0};
        int[] second = {1, 0, 1};
        for (int w = 0; w < 3; w++) {
            C.due("at 0", x.tape(0, w), first[w]);
            C.due("at 1", x.tape(1, w), second[w]);
            C.due("at 2", x.tape(2, w), none[w]);
        }
    }

    // "Of a FIRM at a minute: the price that TAPE told last (whole by then, what = 0), what is true (1). NONE. BAD."
    private static void promise32() {
        TickerHouse x = withFirms(1);
        int[] noFirm = {-1, 1, MIN, MAX};
        for (int f : noFirm) {
            C.due("no firm " + f, x.price(f, 0, 0), BAD);
        }
        int[] bad = {-1, 3001, MIN, MAX};
        for (int minute : bad) {
            C.due("minute " + minute, x.price(0, minute, 0), BAD);
            C.due("minute " + minute, x.price(0, minute, 1), BAD);
        }
        int[] what = {-1, 2, MIN, MAX};
        for (int w : what) {
            C.due("what " + w, x.price(0, 0, w), BAD);
        }
        C.due("none", x.price(0, 3000, 0), NONE);
        C.due("none", x.price(0, 3000, 1), NONE);
        x.add(1, 1, 0, 0, 1);
        C.due("ahead of its coming", x.price(0, 0, 1), NONE);
        C.due("as it comes", x.price(0, 1, 1), 0);
        C.due("being told", x.price(0, 1, 0), NONE);
        C.due("whole by then", x.price(0, 2, 0), 0);
    }

    // "THE REPAIR of THE ROW: how many SLIPS. NONE: none with 6."
    private static void promise33() {
        TickerHouse x = withFirms(1);
        C.due("an empty row", x.repair(), NONE);
        put(x, 0, 0);
        C.due("six", x.repair(), 6);
        put(x, 0, 0, 1, D, 0);
        C.due("seven", x.repair(), NONE);
        put(x, 1, D, D, 0);
        C.due("none is needed", x.repair(), 0);
        C.due("the row stays", x.count(3), 4);
    }

    // "SIGN i of it. NONE: not so many, none. BAD: i below 0."
    private static void promise34() {
        TickerHouse x = withFirms(1);
        C.due("i below 0", x.repairAt(-1), BAD);
        C.due("i below 0", x.repairAt(MIN), BAD);
        C.due("none", x.repairAt(0), NONE);
        put(x, D, D, 0);
        int[] want = {1, D, D, 0, NONE};
        for (int i = 0; i < 5; i++) {
            C.due("sign " + i, x.repairAt(i), want[i]);
        }
        C.due("not so many", x.repairAt(MAX), NONE);
        C.due("i below 0", x.repairAt(-1), BAD);
        x.sign(45);
        C.due("none of the row as it is now", x.repairAt(0), NONE);
    }

    // "THE ROW becomes its REPAIR: how many SIGNS. NO: none; FULL: above 40."
    private static void promise35() {
        TickerHouse x = withFirms(1);
        C.due("an empty row", x.mend(), NO);
        put(x, 45);
        C.due("none", x.mend(), NO);
        C.due("the row stays", x.rowAt(0), 45);
        put(x, D, D, 0);
        C.due("four", x.mend(), 4);
        C.due("the row", x.count(3), 4);
        C.due("its first sign", x.rowAt(0), 1);
        C.due("it is whole", x.mend(), 4);
        int[] row = new int[40];
        for (int i = 0; i < 40; i++) {
            row[i] = i % 4 == 3 ? 0 : i % 4 == 0 && i > 0 ? 1 : D;
        }
        put(x, row);
        C.due("its first code is lost", x.repair(), 1);
        C.due("41", x.mend(), FULL);
        C.due("the row stays", x.count(3), 40);
        C.due("the row stays", x.rowAt(0), D);
        put(x, java.util.Arrays.copyOfRange(row, 1, 40));
        C.due("39, and a letter and no more: 40", x.mend(), 40);
        C.due("the row", x.count(3), 40);
    }

    // "COST of a UNISON behind each k-th SIGN (0: never), a WRONG one w (0 .. 1000). BAD; FULL: PULSES."
    private static void promise36() {
        TickerHouse x = withMachines(1);
        x.sign(0);
        int[] badK = {-1, 21, MIN, MAX};
        for (int k : badK) {
            C.due("k " + k, x.cost(k, 0), BAD);
        }
        int[] badW = {-1, 1001, MIN, MAX};
        for (int w : badW) {
            C.due("w " + w, x.cost(0, w), BAD);
        }
        C.due("never", x.cost(0, 1000), 1);
        C.due("behind the first", x.cost(1, 1000), 66);
        C.due("behind the twentieth", x.cost(20, 1000), 1);
        TickerHouse y = withPulsesLeft(5);
        put(y, 1, 3);
        C.due("just room", y.cost(0, 0), 5);
        put(y, 1, 4);
        C.due("one too many", y.cost(0, 0), FULL);
        C.due("a bad k ahead of full", y.cost(21, 0), BAD);
        C.due("a bad w ahead of full", y.cost(0, 1001), BAD);
        C.due("nothing is changed", y.count(1), ALL_PULSES - 5);
    }

    // "The k of 0 .. 20 with the least COST, of like ones the least. BAD; FULL: one of these is."
    private static void promise37() {
        TickerHouse x = withMachines(1);
        x.sign(0);
        int[] badW = {-1, 1001, MIN, MAX};
        for (int w : badW) {
            C.due("w " + w, x.often(w), BAD);
        }
        C.due("w 0", x.often(0), 0);
        C.due("w 1000: of like ones the least", x.often(1000), 0);
        TickerHouse y = withPulsesLeft(65);
        y.sign(0);
        C.due("with k = 1 it takes 66", y.often(0), FULL);
        C.due("a bad w ahead of full", y.often(1001), BAD);
        TickerHouse z = withPulsesLeft(66);
        z.sign(0);
        C.due("66 are left", z.often(0), 0);
    }

    // "How many: 0 MACHINES, 1 PULSES, .. 6 PACE, 7 whether SHORTS are on. BAD."
    private static void promise38() {
        TickerHouse x = new TickerHouse();
        int[] bad = {-1, 8, MIN, MAX};
        for (int what : bad) {
            C.due("what " + what, x.count(what), BAD);
        }
        for (int i = 0; i < 3; i++) {
            x.machine(0, 0, 0);
        }
        give(x, STEP, 4);
        for (int i = 0; i < 5; i++) {
            x.slip(0, i);
        }
        put(x, 1, 2, 3, 4, 5, 6);
        for (int i = 1; i <= 7; i++) {
            x.firm(i, 0, 0, 0);
        }
        for (int i = 0; i < 8; i++) {
            x.add(0, 0, 0, 0, 1);
        }
        x.line(0, 0, 9);
        x.shorts(true);
        int[] want = {3, 4, 5, 6, 7, 8, 9, 1};
        for (int what = 0; what < 8; what++) {
            C.due("count(" + what + ")", x.count(what), want[what]);
        }
    }

    // "h = 263; then h = 31 h + v for each v: count(0) to count(7); of THE SENDER, MACHINES about(.., 0) to (.., 6),
    //  their RIBBONS; THE ROW; of FIRMS letters (four, 0s behind), LAST; of QUOTES in THE QUEUE minute, due, firm,
    //  price, hundreds."
    private static void promise39() {
        TickerHouse x = new TickerHouse();
        int[] atFirst = {0, 0, 0, 0, 0, 0, 5, 0, 0, 0, 0, 0, 0, 0, 1};
        C.due("at first", x.digest(), digestOf(atFirst));
        x.machine(0, 0, 0);
        x.slip(0, 0);
        x.bring(2);
        x.sign(STAR);
        x.firm(3, 4, 0, 0);
        x.add(6, 7, 0, 8, 9);
        int[] then = {1, 3, 1, 1, 1, 1, 5, 0, 2, 0, 0, 0, 1, 0, 1, 2, 1, 0, 0, 0, 1, 1, 1, 1, STAR, 3, 4, 0, 0, NONE,
            6, 7, 0, 8, 9};
        C.due("one of each", x.digest(), digestOf(then));
        x.tear();
        x.clear();
        x.drop();
        int[] emptied = {1, 3, 1, 0, 1, 0, 5, 0, 2, 0, 0, 0, 0, 0, 1, 1, 0, 0, 0, 0, 1, 1, 3, 4, 0, 0, NONE};
        C.due("emptied", x.digest(), digestOf(emptied));
    }

    private static long digestOf(int[] all) {
        long h = 263;
        for (int v : all) {
            h = 31 * h + v;
        }
        return h;
    }
}
