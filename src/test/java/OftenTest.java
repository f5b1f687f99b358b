/** Promises 36 and 37: what a unison behind each k-th sign costs, and how often it should be. */
public final class OftenTest {
    private static final Check C = new Check();
    private static final int NONE = TickerHouse.NONE, BAD = TickerHouse.BAD;

    public static void main(String[] args) {
        wrongNumbers();
        pulsesAlone();
        wrongSigns();
        fromHowTheyStand();
        leavesAllAsItWas();
        ribbonsThatAreFull();
        howOften();
        behindTheTwentieth();
        C.end();
    }

    private static void wrongNumbers() {
        TickerHouse x = new TickerHouse();
        C.due("k", x.cost(-1, 0), BAD);
        C.due("k", x.cost(21, 0), BAD);
        C.due("w", x.cost(0, -1), BAD);
        C.due("w", x.cost(0, 1001), BAD);
        C.due("w", x.often(-1), BAD);
        C.due("w", x.often(1001), BAD);
        C.due("an empty row", x.cost(1, 1000), 0);
        C.due("an empty row", x.often(1000), 0);
    }

    private static void pulsesAlone() {
        TickerHouse x = new TickerHouse();
        for (int v = 1; v <= 4; v++) {
            x.sign(v);
        }
        C.due("never", x.cost(0, 1000), 8);
        // Each time from place 0: 2, 3, 4, 5 pulses.
        C.due("behind each", x.cost(1, 1000), 14 + 4 * 65);
        C.due("behind each second", x.cost(2, 1000), 2 + 2 + 4 + 2 + 2 * 65);
        C.due("behind the third", x.cost(3, 1000), 2 + 2 + 2 + 5 + 65);
        C.due("behind the fourth", x.cost(4, 1000), 8 + 65);
        C.due("never comes", x.cost(5, 1000), 8);
        C.due("never comes", x.cost(20, 1000), 8);
    }

    private static void wrongSigns() {
        TickerHouse x = new TickerHouse();
        x.machine(0, 0, 0);
        x.machine(0, 0, 0);
        x.machine(0, 0, 1000);
        x.machine(1, 0, 1000);
        x.line(1000, 100, 5);
        for (int v = 1; v <= 4; v++) {
            x.sign(v);
        }
        C.due("the one that gets nothing misses four", x.cost(0, 10), 8 + 40);
        x.slip(0, 0);
        C.due("one step lost: all four are wrong", x.cost(0, 10), 8 + 80);
        C.due("two wrong, brought together, two right; a blank of unison is missed, too", x.cost(2, 10), 140 + 20 + 60);
        x.slip(1, 7);
        C.due("the last print lost: one more", x.cost(0, 10), 8 + 90);
        C.due("w 0", x.cost(0, 0), 8);
        x.alive(0, false);
        C.due("those not alive are not counted", x.cost(0, 10), 8 + 50);
        x.alive(1, false);
        x.alive(2, false);
        x.alive(3, false);
        C.due("none alive", x.cost(0, 1000), 8);
    }

    private static void fromHowTheyStand() {
        TickerHouse x = new TickerHouse();
        x.machine(0, 0, 0);
        x.slip(0, 0);
        x.pulse(0);
        C.due("astray", x.about(0, 0), 0);
        x.pulse(1);
        x.sign(2);
        x.sign(3);
        C.due("wrong from how it stands, the ribbon so far not counted", x.cost(0, 100), 4 + 200);
        C.due("brought together behind the first", x.cost(1, 100), 2 + 65 + 4 + 65 + 100);
        for (int i = 0; i < 60; i++) {
            x.pulse(0);
        }
        C.due("a stopped sender prints a blank first", x.cost(0, 100), 1 + 3 + 2);
    }

    private static void leavesAllAsItWas() {
        TickerHouse x = new TickerHouse();
        x.machine(0, 0, 0);
        x.slip(0, 3);
        x.sign(5);
        x.bring(30);
        long before = x.digest();
        x.cost(1, 1);
        x.often(1);
        C.due("nothing is changed", x.digest(), before);
        C.due("pulses", x.count(1), 6);
    }

    /** What is printed counts, though a ribbon keeps no more. */
    private static void ribbonsThatAreFull() {
        TickerHouse x = new TickerHouse();
        x.machine(0, 0, 0);
        for (int i = 0; i < 300; i++) {
            x.pulse(1);
        }
        x.slip(0, 300);
        x.sign(1);
        x.sign(2);
        C.due("two wrong", x.cost(0, 100), 4 + 200);
    }

    /** Two prints lost, of which the steps of one unison would be no loss. */
    private static void behindTheTwentieth() {
        TickerHouse x = new TickerHouse();
        x.machine(0, 0, 0);
        x.machine(0, 0, 0);
        x.slip(0, 43);
        x.slip(1, 56);
        for (int i = 0; i < 38; i++) {
            x.sign(21);
        }
        C.due("never: 22 + 37, two signs missing", x.cost(0, 50), 59 + 100);
        C.due("behind the 20th: 22 + 19, 65, 22 + 17", x.cost(20, 50), 145);
        C.due("behind the 19th and the 38th", x.cost(19, 50), 210);
        C.due("k = 20", x.often(50), 20);
    }

    private static void howOften() {
        TickerHouse x = new TickerHouse();
        x.machine(0, 0, 0);
        x.slip(0, 0);
        for (int v = 1; v <= 10; v++) {
            x.sign(v);
        }
        C.due("never: all ten are wrong", x.cost(0, 100), 20 + 1000);
        C.due("for nothing, never", x.often(0), 0);
        // Behind the k-th: k wrong, 65 pulses and 10 or fewer more; above 5 only once.
        C.due("behind the first and all others", x.cost(1, 1000), 65 + 650 + 1000);
        int best = 0;
        for (int k = 1; k <= 20; k++) {
            best = x.cost(k, 100) < x.cost(best, 100) ? k : best;
        }
        C.due("the least cost", x.often(100), best);
        C.due("by hand: 3 wrong, 3 times, 6 + 9 + 12 + 11 pulses", x.cost(3, 100), 6 + 9 + 12 + 11 + 195 + 300);
        C.due("k = 3", x.often(100), 3);
        C.due("very dear: behind each", x.often(1000), 1);
        TickerHouse y = new TickerHouse();
        y.sign(1);
        C.due("like ones: the least", y.often(5), 0);
    }
}
