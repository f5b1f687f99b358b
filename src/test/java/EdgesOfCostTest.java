/** Section 5 of "Terms", sentence by sentence: what bringing all together costs. */
public final class EdgesOfCostTest {
    private static final Check C = new Check();
    private static final int NONE = TickerHouse.NONE, FULL = TickerHouse.FULL;
    private static final int STEP = 0, PRINT = 1, SHIFT = 2;

    public static void main(String[] args) {
        behindEachKth();
        neverAndNotSoFar();
        behindTheTwentieth();
        fromHowTheyStandNow();
        fromWhatTheLineIsNow();
        slipsOfPulsesToCome();
        howManyPulses();
        wTimes();
        onThoseThatAreAlive();
        placesThatDiffer();
        howManyMoreTheOneHas();
        fromThenOn();
        asSendingWouldDo();
        theLeastCost();
        roomForPulses();
        C.end();
    }

    private static void put(TickerHouse x, int times, int sign) {
        for (int i = 0; i < times; i++) {
            x.sign(sign);
        }
    }

    private static void give(TickerHouse x, int kind, int times) {
        for (int i = 0; i < times; i++) {
            x.pulse(kind);
        }
    }

    // "behind each k-th SIGN (1 .. 20) UNISON"
    private static void behindEachKth() {
        TickerHouse x = new TickerHouse();
        put(x, 40, 0);
        for (int k = 1; k <= 20; k++) {
            C.due("forty blanks, k = " + k, x.cost(k, 0), 40 + 65 * (40 / k));
        }
        C.due("never", x.cost(0, 0), 40);
    }

    // The last SIGN may be a k-th one, too; a row of fewer has none.
    private static void neverAndNotSoFar() {
        TickerHouse x = new TickerHouse();
        for (int k = 1; k <= 20; k++) {
            C.due("an empty row, k = " + k, x.cost(k, 1000), 0);
        }
        put(x, 5, 0);
        C.due("behind the fifth, the last", x.cost(5, 0), 5 + 65);
        C.due("no sixth", x.cost(6, 0), 5);
        C.due("behind the fourth", x.cost(4, 0), 5 + 65);
        C.due("behind the second and the fourth", x.cost(2, 0), 5 + 130);
    }

    private static void behindTheTwentieth() {
        TickerHouse x = new TickerHouse();
        put(x, 19, 3);
        C.due("nineteen", x.cost(20, 0), 4 + 18);
        put(x, 1, 3);
        C.due("twenty", x.cost(20, 0), 4 + 19 + 65);
        put(x, 1, 3);
        C.due("twenty-one: the last from place 0 again", x.cost(20, 0), 4 + 19 + 65 + 4);
        put(x, 19, 3);
        C.due("forty", x.cost(20, 0), 2 * (4 + 19 + 65));
    }

    // "from how all MACHINES stand now": place, wheel, run, stopped, the sender's and each machine's.
    private static void fromHowTheyStandNow() {
        TickerHouse x = new TickerHouse();
        x.machine(0, 0, 0);
        put(x, 2, 4);
        C.due("at first", x.cost(0, 100), 5 + 1);
        x.bring(4);
        C.due("at its place", x.cost(0, 100), 1 + 1);
        x.alive(0, false);
        x.pulse(STEP);
        x.pulse(SHIFT);
        x.alive(0, true);
        // The sender shifts and goes 27 steps; the machine, on letters at 4, goes to figures at 3: two are wrong.
        C.due("wheel and place of its own", x.cost(0, 100), 1 + 27 + 1 + 1 + 200);
        x.unison();
        C.due("together again", x.cost(0, 100), 5 + 1);
        give(x, STEP, 54);
        // Both at place 26 with a run of 54: the second step stops; print, four steps, print; print.
        C.due("a run of their own", x.cost(0, 100), 2 + 1 + 5 + 1);
        x.alive(0, false);
        x.pulse(PRINT);
        x.alive(0, true);
        // The sender has 6 steps to go; by the second one the machine is stopped, till it prints a blank; then it has A.
        C.due("a run of the machine's own", x.cost(0, 100), 6 + 1 + 1 + 200);
        C.due("brought together behind the first", x.cost(1, 100), 7 + 65 + 5 + 65 + 100);
        give(x, STEP, 56);
        C.due("stopped: a blank first", x.cost(0, 100), 1 + 5 + 1);
    }

    // Power, loss and pace, as they are.
    private static void fromWhatTheLineIsNow() {
        TickerHouse x = new TickerHouse();
        x.machine(100, 2, 940);
        put(x, 3, 0);
        C.due("1000 less 50 less 10: just enough", x.cost(0, 10), 3);
        x.line(999, 50, 5);
        C.due("less power", x.cost(0, 10), 3 + 30);
        x.line(1000, 51, 5);
        C.due("more loss", x.cost(0, 10), 3 + 30);
        x.line(1000, 50, 6);
        C.due("a faster pace", x.cost(0, 10), 3 + 30);
        x.line(1000, 50, 5);
        C.due("as at first", x.cost(0, 10), 3);
    }

    // SLIPS are told by numbers of PULSES: those from the next one on count.
    private static void slipsOfPulsesToCome() {
        TickerHouse x = new TickerHouse();
        x.machine(0, 0, 0);
        put(x, 3, 0);
        give(x, PRINT, 10);
        x.slip(0, 9);
        C.due("a pulse that was", x.cost(0, 10), 3);
        x.slip(0, 13);
        C.due("a pulse behind the row", x.cost(0, 10), 3);
        C.due("with a unison it is one of its steps: no loss", x.cost(3, 10), 3 + 65);
        x.slip(0, 12);
        C.due("the last one", x.cost(0, 10), 3 + 10);
        x.slip(0, 10);
        C.due("the first one, too", x.cost(0, 10), 3 + 20);
        x.send();
        C.due("all of them were, but that of number 13", x.cost(0, 10), 3 + 10);
    }

    // "its COST is how many PULSES that takes"
    private static void howManyPulses() {
        TickerHouse x = new TickerHouse();
        x.sign(27);
        x.sign(0);
        C.due("shift, step, print; 27 steps, print", x.cost(0, 0), 3 + 28);
        C.due("from place 0 on letters behind the first", x.cost(1, 0), 3 + 65 + 1 + 65);
        x.send();
        C.due("no shift now", x.cost(0, 0), 2 + 28);
        C.due("one pulse each", x.cost(2, 0), 2 + 28 + 65);
    }

    // "w times" (0 .. 1000)
    private static void wTimes() {
        TickerHouse x = new TickerHouse();
        for (int i = 0; i < 8; i++) {
            x.machine(0, 0, 1000);
        }
        x.line(999, 50, 5);
        put(x, 40, 0);
        C.due("0", x.cost(0, 0), 40);
        C.due("1", x.cost(0, 1), 40 + 8 * 40);
        C.due("1000", x.cost(0, 1000), 40 + 8 * 40 * 1000);
        C.due("1000, and the blanks of forty unisons", x.cost(1, 1000), 40 * 66 + 8 * 80 * 1000);
    }

    // "on all MACHINES that are ALIVE together"
    private static void onThoseThatAreAlive() {
        TickerHouse x = new TickerHouse();
        put(x, 2, 0);
        C.due("no machine", x.cost(0, 10), 2);
        for (int i = 0; i < 8; i++) {
            x.machine(0, 0, 1000);
        }
        x.line(0, 0, 1);
        for (int i = 0; i < 8; i++) {
            C.due(8 - i + " are alive", x.cost(0, 10), 2 + 20 * (8 - i));
            x.alive(i, false);
        }
        C.due("none is alive", x.cost(0, 10), 2);
    }

    // "places of those that it and THE SENDER print from then on (first with first, and so on) that differ"
    private static void placesThatDiffer() {
        TickerHouse x = new TickerHouse();
        x.machine(0, 0, 0);
        x.sign(1);
        x.sign(2);
        x.sign(2);
        x.sign(3);
        // Pulses: 0 step, 1 print, 2 step, 3 print, 4 print, 5 step, 6 print.
        x.slip(0, 1);
        // The machine prints B, B, C for A, B, B, C: first with first it differs at the first and the third, and one is missing.
        C.due("first with first", x.cost(0, 10), 7 + 30);
        C.due("nothing is printed by that", x.about(0, 4), 0);
    }

    // "and how many more the one has"
    private static void howManyMoreTheOneHas() {
        TickerHouse x = new TickerHouse();
        x.machine(0, 0, 0);
        put(x, 4, 0);
        for (int i = 0; i < 4; i++) {
            C.due(i + " prints lost", x.cost(0, 10), 4 + 10 * i);
            x.slip(0, i);
        }
        C.due("all are lost", x.cost(0, 10), 4 + 40);
    }

    // "from then on": what the ribbons have is not looked at, nor whether they are full.
    private static void fromThenOn() {
        TickerHouse x = new TickerHouse();
        x.machine(0, 0, 0);
        x.slip(0, 0);
        x.bring(0);
        C.due("one is wrong so far", x.wrong(0), 1);
        x.sign(0);
        C.due("none from then on", x.cost(0, 10), 1);
        give(x, PRINT, 300);
        x.slip(0, x.count(1));
        C.due("full ribbons", x.cost(0, 10), 1 + 10);
        C.due("still full", x.about(NONE, 4), 300);
    }

    // The same pulses as sending the row: its cost is what sending takes and what is wrong then.
    private static void asSendingWouldDo() {
        TickerHouse x = new TickerHouse();
        x.firm(20, 3, 0, 0);
        x.machine(0, 0, 0);
        x.machine(0, 0, 0);
        x.write(0, 4321, 17);
        x.write(0, 1234, 1);
        int[] lost = {3, 40, 41, 77, 160};
        for (int i = 0; i < lost.length; i++) {
            x.slip(i % 2, lost[i]);
        }
        int pulses = x.cost(0, 0);
        int wrong = x.cost(0, 1) - pulses;
        long before = x.digest();
        x.cost(1, 1000);
        x.often(1000);
        C.due("nothing is changed", x.digest(), before);
        C.due("pulses", x.send(), pulses);
        C.due("wrong", x.wrong(0) + x.wrong(1), wrong);
        C.holds("some are wrong", wrong > 0);
    }

    // "The k of 0 .. 20 with the least COST, of like ones the least."
    private static void theLeastCost() {
        TickerHouse x = new TickerHouse();
        C.due("an empty row", x.often(1000), 0);
        x.machine(0, 0, 0);
        put(x, 10, 1);
        C.due("nothing is wrong: never", x.often(1000), 0);
        x.slip(0, 0);
        // Never: 11 and ten wrong. k = 1: 10 * 2 + 650 and one. k = 5: 2 * 6 + 130 and five. k = 10: 11 + 65 and ten.
        C.due("never", x.cost(0, 1), 11 + 10);
        C.due("k = 5", x.cost(5, 1), 12 + 130 + 5);
        C.due("k = 6", x.cost(6, 1), 12 + 65 + 6);
        C.due("cheap ones: never", x.often(1), 0);
        // Never: 11 + 10 w; k = 6: 77 + 6 w; like at 16.5.
        C.due("16: never", x.often(16), 0);
        C.due("17: k = 6", x.often(17), 6);
        C.due("all are dear: k = 1", x.often(1000), 1);
    }

    // "FULL: PULSES"; "FULL: one of these is"
    private static void roomForPulses() {
        TickerHouse x = new TickerHouse();
        for (int i = 0; i < 40; i++) {
            x.sign(i < 26 ? 26 - i : 40 - i);
        }
        while (x.count(1) < 100001 - 1110) {
            x.send();
        }
        x.clear();
        while (x.count(1) < 100001 - 67 - 65) {
            x.unison();
        }
        while (x.count(1) < 100001 - 67) {
            x.pulse(PRINT);
        }
        x.bring(0);
        C.due("66 are left", x.count(1), 100001 - 66);
        x.sign(0);
        C.due("k = 1 takes 66", x.cost(1, 0), 66);
        C.due("all have room", x.often(0), 0);
        x.sign(0);
        C.due("k = 2 takes 67", x.cost(2, 0), FULL);
        C.due("never takes 2", x.cost(0, 0), 2);
        C.due("k = 3 takes 2", x.cost(3, 0), 2);
        C.due("some have no room", x.often(0), FULL);
        C.due("nothing is changed", x.count(1), 100001 - 66);
        C.due("it can be sent", x.send(), 2);
    }
}
