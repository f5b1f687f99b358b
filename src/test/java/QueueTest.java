/** Promises 26 to 32: the queue, the most in time, the tape. */
public final class QueueTest {
    private static final Check C = new Check();
    private static final int NONE = TickerHouse.NONE, BAD = TickerHouse.BAD, FULL = TickerHouse.FULL;

    public static void main(String[] args) {
        adding();
        minutes();
        mostInTime();
        likeSets();
        orders();
        allTwelve();
        tape();
        prices();
        C.end();
    }

    private static TickerHouse withFirms() {
        TickerHouse x = new TickerHouse();
        x.firm(1, 0, 0, 0);
        x.firm(2, 0, 0, 0);
        return x;
    }

    private static void adding() {
        TickerHouse x = withFirms();
        C.due("minute", x.add(-1, 5, 0, 0, 1), BAD);
        C.due("minute", x.add(1001, 1500, 0, 0, 1), BAD);
        C.due("due ahead", x.add(5, 4, 0, 0, 1), BAD);
        C.due("due", x.add(5, 2001, 0, 0, 1), BAD);
        C.due("firm", x.add(0, 5, 2, 0, 1), BAD);
        C.due("firm", x.add(0, 5, -1, 0, 1), BAD);
        C.due("price", x.add(0, 5, 0, -1, 1), BAD);
        C.due("price", x.add(0, 5, 0, 80000, 1), BAD);
        C.due("shares", x.add(0, 5, 0, 0, 0), BAD);
        C.due("shares", x.add(0, 5, 0, 0, 1000), BAD);
        C.due("none", x.drop(), 0);
        C.due("due at once", x.add(0, 0, 0, 0, 1), 0);
        C.due("greatest", x.add(1000, 2000, 1, 79999, 999), 1);
        C.due("no last by that", x.last(1), NONE);
        for (int i = 2; i < 12; i++) {
            C.due("quote " + i, x.add(i, i, 0, i, 1), i);
        }
        C.due("one more", x.add(0, 0, 0, 0, 1), FULL);
        C.due("bad ahead of full", x.add(0, 0, 0, 0, 0), BAD);
        C.due("twelve", x.count(5), 12);
        C.due("dropped", x.drop(), 12);
        C.due("none", x.count(5), 0);
        C.due("the first again", x.add(0, 0, 0, 0, 1), 0);
    }

    /** A 000 blank: 2 + (shift, 1 or 0 steps, print) .. */
    private static void minutes() {
        TickerHouse x = withFirms();
        C.due("none", x.minutes(0), BAD);
        // A: 2. 0: shift, print: 2. 0, 0: 2. Blank: 28. Shift back: 1. Together 35.
        x.add(0, 5, 0, 0, 1);
        // A: 2. 1: 3. 2: 2. 3: 2. Blank: 25. Shift back: 1. Together 35; with an eighth of 7: 13 + 1 and 12.
        x.add(0, 5, 0, 123 * 8 + 7, 1);
        C.due("below", x.minutes(-1), BAD);
        C.due("above", x.minutes(2), BAD);
        x.line(1000, 50, 1);
        C.due("35 by 10", x.minutes(0), 4);
        C.due("2 + 3 + 2 + 2 + 14 + 12 + 1 = 36 by 10", x.minutes(1), 4);
        x.line(1000, 50, 3);
        C.due("35 by 30", x.minutes(0), 2);
        x.line(1000, 50, 50);
        C.due("35 by 500", x.minutes(0), 1);
        x.drop();
        x.line(1000, 50, 1);
        // B: 3. 2: shift, 1 step, print: 3. 3: 2. 4: 2. 5: 2. Mark 44 (place 18) from 6: 13. 1 (place 2): 13. 0: 28. Blank: 28. Shift: 1.
        x.add(0, 100, 1, 2345 * 8, 10);
        C.due("3 + 3 + 2 + 2 + 2 + 13 + 13 + 28 + 28 + 1 = 95 by 10", x.minutes(0), 10);
        x.shorts(true);
        x.write(1, 2345 * 8, 1);
        C.due("always full", x.minutes(0), 10);
        x.bring(20);
        C.due("always from place 0", x.minutes(0), 10);
        x.drop();
        x.firm(1, 1, 1, 1);
        // Once around with ten prints and two shifts, then twice around with thirteen.
        x.add(0, 100, 2, 1111 * 8 + 1, 1);
        x.add(0, 100, 2, 1111 * 8 + 1, 11);
        C.due("28 + 10 + 2 = 40 by 10", x.minutes(0), 4);
        C.due("56 + 13 + 2 = 71 by 10", x.minutes(1), 8);
    }

    /** Pace 1: a quote of firm 0 at price 0 takes four minutes. */
    private static TickerHouse slow() {
        TickerHouse x = withFirms();
        x.line(1000, 50, 1);
        return x;
    }

    private static void plan(String when, TickerHouse x, int from, int set, int done, int... order) {
        C.due(when + ": set", x.most(from, 0), set);
        C.due(when + ": done", x.most(from, 1), done);
        for (int i = 0; i < order.length; i++) {
            C.due(when + ": orderAt " + i, x.orderAt(from, i), order[i]);
        }
        C.due(when + ": no more", x.orderAt(from, order.length), NONE);
    }

    private static void mostInTime() {
        TickerHouse x = slow();
        C.due("from", x.most(-1, 0), BAD);
        C.due("from", x.most(1001, 0), BAD);
        C.due("what", x.most(0, -1), BAD);
        C.due("what", x.most(0, 2), BAD);
        C.due("from", x.orderAt(-1, 0), BAD);
        C.due("from", x.orderAt(1001, 0), BAD);
        C.due("i", x.orderAt(0, -1), BAD);
        plan("none", x, 7, 0, 7);
        x.add(0, 4, 0, 0, 1);
        plan("just in time", x, 0, 1, 4, 0);
        plan("too late", x, 1, 0, 1);
        x.add(10, 14, 0, 0, 1);
        plan("waits for one that comes", x, 0, 3, 14, 0, 1);
        plan("only the other", x, 3, 2, 14, 1);
        x.add(2, 9, 0, 0, 1);
        plan("between them", x, 0, 7, 14, 0, 2, 1);
        x.line(1000, 50, 50);
        plan("faster", x, 0, 7, 11, 0, 2, 1);
        x.line(1000, 50, 1);
        x.drop();
        plan("dropped", x, 0, 0, 0);
        x.add(0, 4, 0, 0, 1);
        plan("one", x, 0, 1, 4, 0);
        x.add(0, 4, 0, 0, 1);
        x.drop();
        plan("dropped again", x, 0, 0, 0);
    }

    private static void likeSets() {
        TickerHouse x = slow();
        x.add(3, 8, 0, 0, 1);
        x.add(1, 8, 0, 0, 1);
        plan("both can't be: the one that is done first", x, 0, 2, 5, 1);
        plan("like ones: the least set", x, 4, 1, 8, 0);
        x.add(0, 5, 0, 0, 1);
        plan("two: 2 and 1, done at 8 (2 and 0, too)", x, 0, 5, 8, 2, 0);
        plan("from 1 on only one: 1 and 2 are done at 5", x, 1, 2, 5, 1);
        plan("from 2 on only one", x, 2, 2, 6, 1);
    }

    private static void orders() {
        TickerHouse x = slow();
        x.add(0, 100, 0, 0, 1);
        x.add(0, 100, 0, 0, 1);
        x.add(0, 100, 0, 0, 1);
        plan("by numbers", x, 0, 7, 12, 0, 1, 2);
        x.add(0, 8, 0, 0, 1);
        plan("as late as may be is the due one told", x, 0, 15, 16, 0, 3, 1, 2);
        x.drop();
        x.add(6, 100, 0, 0, 1);
        x.add(0, 100, 0, 0, 1);
        plan("waiting first would be done later", x, 0, 3, 10, 1, 0);
        plan("now it is like", x, 6, 3, 14, 0, 1);
        x.drop();
        // A wait may stand ahead where the end hangs on another quote.
        x.add(2, 100, 0, 0, 1);
        x.add(0, 100, 0, 0, 1);
        x.add(20, 100, 0, 0, 1);
        plan("a wait that costs nothing", x, 0, 7, 24, 0, 1, 2);
    }

    private static void allTwelve() {
        TickerHouse x = slow();
        for (int i = 0; i < 12; i++) {
            x.add(0, 4 * (12 - i), 0, 0, 1);
        }
        plan("the due ones first", x, 0, 4095, 48, 11, 10, 9, 8, 7, 6, 5, 4, 3, 2, 1, 0);
        plan("one minute later", x, 1, 2047, 45, 10, 9, 8, 7, 6, 5, 4, 3, 2, 1, 0);
        x.drop();
        for (int i = 0; i < 12; i++) {
            x.add(0, 2000, 0, 0, 1);
        }
        plan("all are like", x, 1000, 4095, 1048, 0, 1, 2, 3, 4, 5, 6, 7, 8, 9, 10, 11);
    }

    private static void at(TickerHouse x, int minute, int told, int waiting, int behind) {
        C.due("tape(" + minute + ", 0)", x.tape(minute, 0), told);
        C.due("tape(" + minute + ", 1)", x.tape(minute, 1), waiting);
        C.due("tape(" + minute + ", 2)", x.tape(minute, 2), behind);
    }

    private static void tape() {
        TickerHouse x = slow();
        C.due("minute", x.tape(-1, 0), BAD);
        C.due("minute", x.tape(3001, 0), BAD);
        C.due("what", x.tape(0, -1), BAD);
        C.due("what", x.tape(0, 3), BAD);
        at(x, 3000, NONE, 0, 0);
        x.add(10, 10, 0, 0, 1);
        x.add(2, 2, 0, 0, 1);
        x.add(10, 10, 0, 0, 1);
        x.add(9, 9, 0, 0, 1);
        at(x, 1, NONE, 0, 0);
        at(x, 2, 1, 0, 0);
        at(x, 5, 1, 0, 0);
        at(x, 6, NONE, 0, 0);
        at(x, 9, 3, 0, 0);
        at(x, 10, 3, 2, 0);
        at(x, 12, 3, 2, 0);
        at(x, 13, 0, 1, 3);
        at(x, 17, 2, 0, 7);
        at(x, 20, 2, 0, 7);
        at(x, 21, NONE, 0, 0);
        x.line(1000, 50, 50);
        at(x, 10, 0, 1, 0);
    }

    private static void prices() {
        TickerHouse x = slow();
        C.due("firm", x.price(2, 0, 0), BAD);
        C.due("firm", x.price(-1, 0, 0), BAD);
        C.due("minute", x.price(0, -1, 0), BAD);
        C.due("minute", x.price(0, 3001, 0), BAD);
        C.due("what", x.price(0, 0, -1), BAD);
        C.due("what", x.price(0, 0, 2), BAD);
        C.due("none", x.price(0, 3000, 0), NONE);
        C.due("none", x.price(0, 3000, 1), NONE);
        // Of firm A 35 and, with an eighth, 36 pulses: four minutes; of firm B 64: seven.
        x.add(5, 5, 0, 0, 1);
        x.add(5, 5, 0, 3, 1);
        x.add(5, 5, 1, 2, 1);
        x.add(0, 0, 0, 1, 1);
        C.due("true at 0", x.price(0, 0, 1), 1);
        C.due("true at 4", x.price(0, 4, 1), 1);
        C.due("true at 5: the later one of like ones", x.price(0, 5, 1), 3);
        C.due("the other firm at 4", x.price(1, 4, 1), NONE);
        C.due("the other firm at 5", x.price(1, 5, 1), 2);
        C.due("told at 3", x.price(0, 3, 0), NONE);
        C.due("told at 4: whole", x.price(0, 4, 0), 1);
        C.due("told at 8", x.price(0, 8, 0), 1);
        C.due("told at 9", x.price(0, 9, 0), 0);
        C.due("told at 12", x.price(0, 12, 0), 0);
        C.due("told at 13", x.price(0, 13, 0), 3);
        C.due("the other firm at 19", x.price(1, 19, 0), NONE);
        C.due("the other firm at 20", x.price(1, 20, 0), 2);
    }
}
