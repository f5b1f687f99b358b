/** Section 3 of "Terms", sentence by sentence: the queue, the most in time, the tape. */
public final class EdgesOfQueueTest {
    private static final Check C = new Check();
    private static final int NONE = TickerHouse.NONE, BAD = TickerHouse.BAD, FULL = TickerHouse.FULL;

    public static void main(String[] args) {
        quotes0To11();
        roundedUp();
        fullFromPlace0();
        fromPlace0WhateverTheSenderDoes();
        paceAsItIsNow();
        begunNoEarlierThanItComes();
        doneByItsDueMinute();
        fromAMinuteOn();
        theGreatestSet();
        thatWhichIsDoneFirst();
        theLeastAsANumber();
        theFirstByNumbersThatIsDoneThen();
        anOrderThatMustWait();
        nothingOfWhatWasAskedBefore();
        inOrderOfComing();
        asSoonAsItMayBe();
        toldThoughItIsLate();
        whatWaits();
        toldLastAndTrue();
        C.end();
    }

    /** Firm 0 is A, firm 1 is AAAA; at pace 1 a quote of firm 0 with price 0 takes 35 pulses, four minutes. */
    private static TickerHouse slow() {
        TickerHouse x = new TickerHouse();
        x.firm(1, 0, 0, 0);
        x.firm(1, 1, 1, 1);
        x.line(1000, 50, 1);
        return x;
    }

    private static void plan(String when, TickerHouse x, int from, int set, int done, int... order) {
        C.due(when + ": set", x.most(from, 0), set);
        C.due(when + ": done", x.most(from, 1), done);
        for (int i = 0; i < order.length; i++) {
            C.due(when + ": orderAt " + i, x.orderAt(from, i), order[i]);
        }
        C.due(when + ": no more", x.orderAt(from, order.length), NONE);
    }

    private static void at(String when, TickerHouse x, int minute, int told, int waiting, int behind) {
        C.due(when + ": tape(" + minute + ", 0)", x.tape(minute, 0), told);
        C.due(when + ": tape(" + minute + ", 1)", x.tape(minute, 1), waiting);
        C.due(when + ": tape(" + minute + ", 2)", x.tape(minute, 2), behind);
    }

    // "THE QUEUE has QUOTES 0 .. 11 with a minute at which each comes (0 .. 1000) and one by which it is due."
    private static void quotes0To11() {
        TickerHouse x = slow();
        for (int q = 0; q <= 11; q++) {
            C.due("its number", x.add(q % 2 * 1000, 2000, 0, q, 1), q);
        }
        C.due("no twelfth number", x.add(0, 0, 0, 0, 1), FULL);
        C.due("the last", x.minutes(11), 4);
        C.due("none behind it", x.minutes(12), BAD);
        x.drop();
        C.due("none", x.minutes(0), BAD);
        C.due("numbers begin anew", x.add(1000, 1000, 0, 0, 1), 0);
    }

    // "Each takes as many minutes as its TEXT's PULSES by PACE times 10, rounded up"
    private static void roundedUp() {
        TickerHouse x = slow();
        // AAAA 1111 1/8: once around, ten prints, two shifts: 40. With 2 hundred: twice around, twelve prints: 70.
        // With 11 hundred: thirteen prints: 71.
        x.add(0, 0, 1, 1111 * 8 + 1, 1);
        x.add(0, 0, 1, 1111 * 8 + 1, 2);
        x.add(0, 0, 1, 1111 * 8 + 1, 11);
        int[] paces = {1, 2, 3, 4, 7, 8, 50};
        int[][] want = {{4, 2, 2, 1, 1, 1, 1}, {7, 4, 3, 2, 1, 1, 1}, {8, 4, 3, 2, 2, 1, 1}};
        for (int i = 0; i < paces.length; i++) {
            x.line(1000, 50, paces[i]);
            for (int q = 0; q < 3; q++) {
                C.due("quote " + q + ", pace " + paces[i], x.minutes(q), want[q][i]);
            }
        }
    }

    // "(FULL; from PLACE 0, LETTERS, with a SHIFT to LETTERS at the end, if needed)"
    private static void fullFromPlace0() {
        TickerHouse x = slow();
        x.firm(26, 26, 26, 26);
        // ZZZZ: 27 + 3. 0: shift, 3 steps, print: 5. 0, 0: 2. Blank: 28. Shift: 1. Together 66.
        x.add(0, 0, 2, 0, 1);
        // The eighth 4 (place 14) ahead of the blank: 14 + 14 and one shift: 67; with 9 in its third digit no more steps.
        x.add(0, 0, 2, 9 * 8 + 4, 1);
        // 71 by the shift at the end; without it 70.
        x.add(0, 0, 1, 1111 * 8 + 1, 11);
        int[] want = {7, 7, 8};
        for (int turn = 0; turn < 4; turn++) {
            for (int q = 0; q < 3; q++) {
                C.due("turn " + turn + ", quote " + q, x.minutes(q), want[q]);
            }
            if (turn == 0) {
                x.shorts(true);
                x.write(1, 1111 * 8 + 1, 11);
                x.write(1, 1111 * 8 + 1, 11);
            } else if (turn == 1) {
                x.bring(40);
            } else {
                for (int i = 0; i < 56; i++) {
                    x.pulse(0);
                }
            }
        }
    }

    // "(.. from PLACE 0, LETTERS ..)": nor do the sender's run, its being stopped, or a row that was tried out, matter.
    private static void fromPlace0WhateverTheSenderDoes() {
        int[] runs = {0, 27, 30, 55, 56};
        for (int run : runs) {
            TickerHouse x = slow();
            x.pulse(2);
            for (int i = 0; i < run; i++) {
                x.pulse(0);
            }
            C.due("an empty row", x.send(), 0);
            x.add(0, 0, 1, 1111 * 8 + 1, 1);
            C.due("an empty row", x.cost(0, 0), 0);
            x.add(0, 0, 1, 1111 * 8 + 1, 2);
            x.sign(53);
            x.cost(1, 1);
            x.add(0, 0, 1, 1111 * 8 + 1, 11);
            x.send();
            x.add(0, 0, 1, 1111 * 8 + 1, 1);
            // 40, 70, 71, 40 pulses: one more or less would show.
            int[] want = {4, 7, 8, 4};
            for (int q = 0; q < 4; q++) {
                C.due("a run of " + run + ", quote " + q, x.minutes(q), want[q]);
            }
        }
    }

    // "PACE": a quote in the queue takes what it takes at the pace that the line has when it is asked for.
    private static void paceAsItIsNow() {
        TickerHouse x = slow();
        x.add(0, 3, 0, 0, 1);
        plan("four minutes are too many", x, 0, 0, 0);
        at("pace 1", x, 3, 0, 0, 0);
        x.line(1000, 50, 2);
        plan("two are not", x, 0, 1, 2, 0);
        at("pace 2", x, 2, NONE, 0, 0);
        C.due("told", x.price(0, 2, 0), 0);
        x.line(1000, 50, 1);
        plan("four again", x, 0, 0, 0);
        C.due("not told", x.price(0, 2, 0), NONE);
    }

    // "begun no earlier than it comes"
    private static void begunNoEarlierThanItComes() {
        TickerHouse x = slow();
        x.add(3, 100, 0, 0, 1);
        plan("one ahead", x, 2, 1, 7, 0);
        plan("just then", x, 3, 1, 7, 0);
        plan("one later", x, 4, 1, 8, 0);
        x.add(1000, 2000, 0, 0, 1);
        plan("the last minute", x, 0, 3, 1004, 0, 1);
        plan("at the last minute", x, 1000, 2, 1004, 1);
    }

    // "done by its due minute", "each whole"
    private static void doneByItsDueMinute() {
        TickerHouse x = slow();
        x.add(5, 9, 0, 0, 1);
        plan("just done", x, 0, 1, 9, 0);
        x.drop();
        x.add(5, 8, 0, 0, 1);
        plan("a minute too few", x, 0, 0, 0);
        x.drop();
        x.add(5, 5, 0, 0, 1);
        plan("due as it comes", x, 0, 0, 0);
        x.drop();
        x.add(0, 8, 0, 0, 1);
        x.add(0, 8, 0, 0, 1);
        plan("both", x, 0, 3, 8, 0, 1);
        x.drop();
        x.add(0, 8, 0, 0, 1);
        x.add(0, 7, 0, 0, 1);
        plan("both, the second one first", x, 0, 3, 8, 1, 0);
        x.drop();
        x.add(0, 7, 0, 0, 1);
        x.add(0, 7, 0, 0, 1);
        plan("one of both", x, 0, 1, 4, 0);
    }

    // "from a minute on"; "of none the one from which on"
    private static void fromAMinuteOn() {
        TickerHouse x = slow();
        plan("none, 0", x, 0, 0, 0);
        plan("none, 1000", x, 1000, 0, 1000);
        x.add(0, 1003, 0, 0, 1);
        plan("as late as may be", x, 999, 1, 1003, 0);
        plan("too late", x, 1000, 0, 1000);
        plan("asked for again", x, 999, 1, 1003, 0);
    }

    // "the greatest set of QUOTES": ahead of being done first and of the number.
    private static void theGreatestSet() {
        TickerHouse x = slow();
        x.add(0, 4, 0, 0, 1);
        x.add(900, 904, 0, 0, 1);
        plan("two, though one is done far earlier", x, 0, 3, 904, 0, 1);
        x.drop();
        x.add(0, 5, 0, 0, 1);
        x.add(1, 5, 0, 0, 1);
        x.add(5, 9, 0, 0, 1);
        // 0 is done at 4, then 2 from 5 to 9; 1 from 1 to 5, then 2: both sets are done at 9.
        plan("two and not one", x, 0, 5, 9, 0, 2);
        // Only 1 can be told from 1 on (0 too, till 5), then 2.
        plan("from 1 on", x, 1, 5, 9, 0, 2);
        x.drop();
        // A long one in the way of two short ones: the two.
        x.add(0, 8, 1, 1111 * 8 + 1, 11);
        x.add(0, 8, 0, 0, 1);
        x.add(0, 8, 0, 0, 1);
        plan("the two short ones", x, 0, 6, 8, 1, 2);
    }

    // "of like ones that which is done first"
    private static void thatWhichIsDoneFirst() {
        TickerHouse x = slow();
        x.add(2, 6, 0, 0, 1);
        x.add(1, 5, 0, 0, 1);
        plan("the second, as it is done at 5", x, 0, 2, 5, 1);
        x.add(0, 4, 0, 0, 1);
        plan("the third, as it is done at 4", x, 0, 4, 4, 2);
        x.add(10, 14, 0, 0, 1);
        x.add(9, 13, 0, 0, 1);
        // Two can be: 2 and 3 is done at 14, 2 and 4 (or 1 and 4, or 0 and 4) at 13; of these the least number.
        plan("two: done at 13", x, 0, 17, 13, 0, 4);
        x.drop();
        x.add(1, 5, 0, 0, 1);
        x.add(2, 6, 0, 0, 1);
        x.add(3, 7, 0, 0, 1);
        plan("the first, as the others are done later", x, 0, 1, 5, 0);
    }

    // "then the least as a number"
    private static void theLeastAsANumber() {
        TickerHouse x = slow();
        for (int q = 0; q < 12; q++) {
            x.add(0, 4, 0, 0, 1);
        }
        plan("the first of twelve", x, 0, 1, 4, 0);
        x.drop();
        for (int q = 0; q < 12; q++) {
            x.add(0, 11, 0, 0, 1);
        }
        plan("two of twelve", x, 0, 3, 8, 0, 1);
        x.drop();
        // Two at most. 0 must be the second one (from 4 on): 1 and 0, 2 and 0, both done at 8; 1 and 2 too, at 8.
        x.add(4, 8, 0, 0, 1);
        x.add(0, 8, 0, 0, 1);
        x.add(0, 8, 0, 0, 1);
        plan("0 and 1, not 0 and 2, not 1 and 2", x, 0, 3, 8, 1, 0);
    }

    // "THE ORDER of it: the first by numbers of QUOTES that is done then."
    private static void theFirstByNumbersThatIsDoneThen() {
        TickerHouse x = slow();
        x.add(1, 100, 0, 0, 1);
        x.add(0, 100, 0, 0, 1);
        // 0 first would be done at 9, 1 first is done at 8.
        plan("not the first by numbers, as that is done later", x, 0, 3, 8, 1, 0);
        plan("from 1 on it is", x, 1, 3, 9, 0, 1);
        x.drop();
        x.add(0, 12, 0, 0, 1);
        x.add(0, 4, 0, 0, 1);
        x.add(0, 12, 0, 0, 1);
        plan("the one that is due first, then by numbers", x, 0, 7, 12, 1, 0, 2);
        x.drop();
        x.add(0, 12, 0, 0, 1);
        x.add(0, 8, 0, 0, 1);
        x.add(0, 12, 0, 0, 1);
        plan("it can wait for one", x, 0, 7, 12, 0, 1, 2);
        x.drop();
        x.add(0, 12, 0, 0, 1);
        x.add(0, 12, 0, 0, 1);
        x.add(0, 8, 0, 0, 1);
        plan("only one stands ahead of it", x, 0, 7, 12, 0, 2, 1);
    }

    // The same with minutes of waiting between: they are free as long as the end is not later.
    private static void anOrderThatMustWait() {
        TickerHouse x = slow();
        x.add(3, 100, 0, 0, 1);
        x.add(0, 100, 0, 0, 1);
        x.add(11, 15, 0, 0, 1);
        // 0 from 3 to 7, 1 from 7 to 11, 2 from 11 to 15: no later than with 1 first.
        plan("three minutes waited for nothing", x, 0, 7, 15, 0, 1, 2);
        x.drop();
        x.add(4, 100, 0, 0, 1);
        x.add(0, 100, 0, 0, 1);
        x.add(11, 15, 0, 0, 1);
        plan("four would be one too many", x, 0, 7, 15, 1, 0, 2);
        x.drop();
        x.add(11, 15, 0, 0, 1);
        x.add(0, 100, 0, 0, 1);
        plan("the first by numbers would be done at 19", x, 0, 3, 15, 1, 0);
    }

    // A plan hangs on the queue, the minute and the pace alone, not on plans that were asked for before.
    private static void nothingOfWhatWasAskedBefore() {
        TickerHouse x = slow();
        for (int q = 0; q < 4; q++) {
            x.add(990, 2000, 0, 0, 1);
        }
        plan("late ones", x, 0, 15, 1006, 0, 1, 2, 3);
        x.drop();
        plan("dropped, from the same minute", x, 0, 0, 0);
        x.add(4, 100, 0, 0, 1);
        x.add(0, 100, 0, 0, 1);
        x.add(11, 15, 0, 0, 1);
        plan("early ones", x, 0, 7, 15, 1, 0, 2);
        x.add(0, 100, 0, 0, 1);
        // Two can be told ahead of 11, if 0, which comes at 4, is not the first of them; one behind 15.
        plan("one more", x, 0, 15, 19, 1, 0, 2, 3);
        x.line(1000, 50, 50);
        plan("another pace", x, 0, 15, 12, 0, 1, 3, 2);
        x.line(1000, 50, 1);
        plan("the first pace", x, 0, 15, 19, 1, 0, 2, 3);
    }

    // "TAPE in order of coming (of like ones by numbers)"
    private static void inOrderOfComing() {
        TickerHouse x = slow();
        at("none", x, 0, NONE, 0, 0);
        at("none", x, 3000, NONE, 0, 0);
        x.add(1, 100, 0, 0, 1);
        x.add(1, 5, 0, 0, 1);
        x.add(0, 100, 0, 0, 1);
        at("the one that came first", x, 0, 2, 0, 0);
        at("then by numbers", x, 4, 0, 1, 3);
        at("though the other one is due", x, 8, 1, 0, 7);
        at("all are told", x, 12, NONE, 0, 0);
        x.drop();
        for (int q = 0; q < 12; q++) {
            x.add(11 - q, 2000, 0, 0, 1);
        }
        for (int q = 11; q >= 0; q--) {
            int begun = 4 * (11 - q);
            C.due("backwards: " + q, x.tape(begun, 0), q);
            C.due("backwards: " + q + " to its end", x.tape(begun + 3, 0), q);
            C.due("backwards: " + q + " is late", x.tape(begun, 2), begun - (11 - q));
        }
        C.due("the last one is told", x.tape(48, 0), NONE);
    }

    // "each as soon as it may be: at a minute: which QUOTE is being told"
    private static void asSoonAsItMayBe() {
        TickerHouse x = slow();
        x.add(1000, 2000, 0, 0, 1);
        x.add(5, 2000, 0, 0, 1);
        at("a minute ahead", x, 4, NONE, 0, 0);
        at("as it comes", x, 5, 1, 0, 0);
        at("its last minute", x, 8, 1, 0, 0);
        at("done", x, 9, NONE, 0, 0);
        at("a minute ahead of the other", x, 999, NONE, 0, 0);
        at("the other", x, 1000, 0, 0, 0);
        at("its last minute", x, 1003, 0, 0, 0);
        at("done", x, 1004, NONE, 0, 0);
        x.add(9, 2000, 0, 0, 1);
        at("one that comes as the first is done", x, 9, 2, 0, 0);
        x.add(9, 2000, 0, 0, 1);
        at("one more", x, 9, 2, 1, 0);
        at("it is told then", x, 13, 3, 0, 4);
    }

    // TAPE does not look at due minutes.
    private static void toldThoughItIsLate() {
        TickerHouse x = slow();
        x.add(0, 0, 0, 16, 1);
        x.add(0, 0, 0, 24, 1);
        plan("none in time", x, 0, 0, 0);
        at("told all the same", x, 0, 0, 1, 0);
        at("told all the same", x, 4, 1, 0, 4);
        C.due("the first", x.price(0, 4, 0), 16);
        C.due("the second", x.price(0, 8, 0), 24);
    }

    // "how many wait, how many minutes the one being told began behind its coming"
    private static void whatWaits() {
        TickerHouse x = slow();
        for (int q = 0; q < 12; q++) {
            x.add(10, 10, 0, 0, 1);
        }
        at("none has come", x, 9, NONE, 0, 0);
        at("one is told, eleven wait", x, 10, 0, 11, 0);
        at("still", x, 13, 0, 11, 0);
        at("the second one", x, 14, 1, 10, 4);
        at("the last one", x, 54, 11, 0, 44);
        at("its last minute", x, 57, 11, 0, 44);
        at("none", x, 58, NONE, 0, 0);
        x.drop();
        x.add(0, 0, 0, 0, 1);
        x.add(3, 3, 0, 0, 1);
        x.add(4, 4, 0, 0, 1);
        at("ahead of its coming it does not wait", x, 2, 0, 0, 0);
        at("it came: it waits", x, 3, 0, 1, 0);
        at("it is told, another one waits", x, 4, 1, 1, 1);
        at("the other one", x, 8, 2, 0, 4);
    }

    // "of a firm what TAPE has told last of it, and what is true (the latest QUOTE that came)"
    private static void toldLastAndTrue() {
        TickerHouse x = slow();
        x.add(20, 20, 0, 8, 1);
        x.add(0, 0, 0, 16, 1);
        C.due("not whole", x.price(0, 3, 0), NONE);
        C.due("whole", x.price(0, 4, 0), 16);
        C.due("true as it comes", x.price(0, 0, 1), 16);
        C.due("true", x.price(0, 19, 1), 16);
        C.due("the next one came", x.price(0, 20, 1), 8);
        C.due("it is not told", x.price(0, 23, 0), 16);
        C.due("now it is", x.price(0, 24, 0), 8);
        C.due("the last minute", x.price(0, 3000, 0), 8);
        C.due("the last minute", x.price(0, 3000, 1), 8);
        C.due("the other firm: none", x.price(1, 3000, 0), NONE);
        C.due("the other firm: none", x.price(1, 3000, 1), NONE);
        x.add(20, 20, 1, 0, 1);
        C.due("of the other firm one came", x.price(1, 20, 1), 0);
        C.due("of the first it stays", x.price(0, 20, 1), 8);
        C.due("told of the first", x.price(0, 100, 0), 8);
        C.due("told of the other", x.price(1, 100, 0), 0);
        C.due("no last price by the queue", x.last(0), NONE);
        x.write(0, 800, 1);
        C.due("no price of the queue by writing", x.price(0, 3000, 1), 8);
        x.drop();
        C.due("none is left", x.price(0, 3000, 0), NONE);
        C.due("none is left", x.price(0, 3000, 1), NONE);
    }
}
