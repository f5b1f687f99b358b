/** The section "Terms", sentence by sentence: each edge that it names has a method here, the sentence above it. */
public final class EdgesOfTermsTest {
    private static final Check C = new Check();
    private static final int NONE = TickerHouse.NONE;
    private static final int STEP = 0, PRINT = 1, SHIFT = 2;
    private static final int D = 27, EIGHTH = 36, MARK = 44, STAR = 54;

    public static void main(String[] args) {
        signsOnTheWheels();
        everySignBrought();
        allZeroAtFirst();
        behind27Comes0();
        aRunOf56();
        aRunGoesOnWithoutItsPrint();
        stoppedStepsAreNothing();
        stoppedShiftsAreNothing();
        threeHundredSigns();
        eachHasItsOwnRibbon();
        theSenderGetsEveryPulse();
        lossIsCut();
        needOrMore();
        aliveOrNot();
        slipOfThatMachineAndThatNumber();
        slipsInsideOneCall();
        blankIsOnBoth();
        noStepIfItIsThere();
        stoppedPrintsFirst();
        comesToBeStopped();
        unisonFromAnywhere();
        unisonOfThoseThatLose();
        dollarsOfThreeAndFourDigits();
        shortWithTheSameHundreds();
        eighthIfNot0();
        sharesIfNot1();
        blanksAreNoQuotes();
        lettersAsManyAsThereAre();
        digitsTwoToFour();
        shortNeedsALastPrice();
        sharesOneToThreeDigits();
        endsTooEarly();
        C.end();
    }

    private static void give(TickerHouse x, int kind, int times) {
        for (int i = 0; i < times; i++) {
            x.pulse(kind);
        }
    }

    private static void stands(String when, TickerHouse x, int machine, int place, int wheel, int run, int stopped) {
        C.due(when + ": place", x.about(machine, 0), place);
        C.due(when + ": wheel", x.about(machine, 1), wheel);
        C.due(when + ": run", x.about(machine, 2), run);
        C.due(when + ": stopped", x.about(machine, 3), stopped);
    }

    private static void printed(String when, TickerHouse x, int machine, int... want) {
        C.due(when + ": how many", x.about(machine, 4), want.length);
        for (int i = 0; i < want.length; i++) {
            C.due(when + ": ribbon " + i, x.ribbon(machine, i), want[i]);
        }
    }

    // "LETTERS (0) has at PLACE 0 BLANK, at 1 .. 26 that letter, at 27 the STAR;
    //  FIGURES (1) at 0 BLANK, at p above that SIGN 26 + p."
    private static void signsOnTheWheels() {
        TickerHouse x = new TickerHouse();
        for (int wheel = 0; wheel < 2; wheel++) {
            for (int place = 0; place < 28; place++) {
                x.pulse(PRINT);
                int want = wheel == 1 ? 26 + place : place == 27 ? STAR : place;
                C.due("wheel " + wheel + ", place " + place, x.ribbon(NONE, wheel * 28 + place), place == 0 ? 0 : want);
                x.pulse(STEP);
            }
            x.pulse(SHIFT);
        }
    }

    // "0 BLANK, 1 .. 26 letters, 27 .. 36 digits 0 .. 9, 37 .. 43 eighths 1 .. 7, 44 .. 53 MARKS, 54 a STAR."
    private static void everySignBrought() {
        for (int v = 0; v <= 54; v++) {
            TickerHouse x = new TickerHouse();
            boolean figure = v >= 27 && v <= 53;
            int steps = v == STAR ? 27 : figure ? v - 26 : v;
            C.due("bring(" + v + ")", x.bring(v), (figure ? 1 : 0) + steps + 1);
            printed("bring(" + v + ")", x, NONE, v);
            stands("bring(" + v + ")", x, NONE, steps, figure ? 1 : 0, 0, 0);
        }
    }

    // "A MACHINE has a PLACE, a WHEEL, a RUN .., may be STOPPED: all 0 at first, not STOPPED."
    private static void allZeroAtFirst() {
        TickerHouse x = new TickerHouse();
        stands("the sender", x, NONE, 0, 0, 0, 0);
        give(x, STEP, 60);
        x.machine(0, 0, 0);
        stands("a machine that comes when the sender is stopped", x, 0, 0, 0, 0, 0);
        C.due("it lost none of the pulses that were", x.about(0, 5), 0);
        C.due("its ribbon is empty", x.about(0, 4), 0);
        x.pulse(STEP);
        stands("it steps where the sender does not", x, 0, 1, 0, 1, 0);
    }

    // "STEP (0): .. its PLACE is one more (behind 27 comes 0), its RUN one more"
    private static void behind27Comes0() {
        TickerHouse x = new TickerHouse();
        x.machine(0, 0, 0);
        x.pulse(SHIFT);
        for (int i = 1; i <= 28; i++) {
            x.pulse(STEP);
            stands("step " + i, x, 0, i == 28 ? 0 : i, 1, i, 0);
        }
        x.pulse(STEP);
        stands("and on", x, 0, 1, 1, 29, 0);
        x.pulse(PRINT);
        C.due("27 and two more by bring", x.bring(STAR), 1 + 26 + 1);
        C.due("over the end", x.bring(2), 4);
        stands("over the end", x, 0, 2, 0, 0, 0);
    }

    // "with a RUN of 56 it is STOPPED: PLACE 0, WHEEL 0."
    private static void aRunOf56() {
        TickerHouse x = new TickerHouse();
        x.machine(0, 0, 0);
        x.bring(D + 9);
        give(x, STEP, 55);
        stands("55", x, 0, 9, 1, 55, 0);
        x.pulse(STEP);
        stands("56", x, 0, 0, 0, 56, 1);
        stands("56", x, NONE, 0, 0, 56, 1);
        x.pulse(PRINT);
        C.due("a blank", x.ribbon(0, 1), 0);
        give(x, STEP, 55);
        x.pulse(PRINT);
        give(x, STEP, 55);
        stands("a print between: the run began anew", x, 0, 26, 0, 55, 0);
    }

    // "RUN (how many STEPS on end)": a machine that loses the PRINT has a longer one than the sender.
    private static void aRunGoesOnWithoutItsPrint() {
        TickerHouse x = new TickerHouse();
        x.machine(0, 0, 0);
        give(x, STEP, 30);
        x.slip(0, 30);
        x.pulse(PRINT);
        give(x, STEP, 26);
        stands("the sender", x, NONE, 0, 0, 26, 0);
        stands("the machine has 56", x, 0, 0, 0, 56, 1);
        C.due("a letter for the sender", x.bring(3), 4);
        stands("the machine got the steps for nothing", x, 0, 0, 0, 0, 0);
        printed("the machine", x, 0, 0);
        printed("the sender", x, NONE, 2, 3);
    }

    // "STEP (0): STOPPED nothing"
    private static void stoppedStepsAreNothing() {
        TickerHouse x = new TickerHouse();
        give(x, STEP, 56);
        for (int i = 0; i < 57; i++) {
            C.due("it is a pulse all the same", x.pulse(STEP), 56 + i);
        }
        stands("57 steps more", x, NONE, 0, 0, 56, 1);
    }

    // "SHIFT (2): STOPPED nothing; else the other WHEEL."
    private static void stoppedShiftsAreNothing() {
        TickerHouse x = new TickerHouse();
        x.pulse(SHIFT);
        stands("the other", x, NONE, 0, 1, 0, 0);
        x.pulse(SHIFT);
        stands("the first again", x, NONE, 0, 0, 0, 0);
        give(x, STEP, 56);
        C.due("a pulse all the same", x.pulse(SHIFT), 58);
        stands("stopped: nothing", x, NONE, 0, 0, 56, 1);
        x.pulse(PRINT);
        x.pulse(SHIFT);
        stands("free again: the other", x, NONE, 0, 1, 0, 0);
    }

    // "it prints the SIGN .. behind its RIBBON (300 SIGNS; what is more is not kept), its RUN is 0, it is not STOPPED."
    private static void threeHundredSigns() {
        TickerHouse x = new TickerHouse();
        give(x, PRINT, 299);
        C.due("299", x.about(NONE, 4), 299);
        C.due("no 300th yet", x.ribbon(NONE, 299), NONE);
        x.bring(1);
        C.due("300", x.about(NONE, 4), 300);
        C.due("the 300th", x.ribbon(NONE, 299), 1);
        C.due("one more is printed", x.bring(2), 2);
        C.due("300 still", x.about(NONE, 4), 300);
        C.due("the 300th stays", x.ribbon(NONE, 299), 1);
        C.due("none behind it", x.ribbon(NONE, 300), NONE);
        give(x, STEP, 56);
        stands("stopped", x, NONE, 0, 0, 56, 1);
        x.pulse(PRINT);
        stands("a print that is not kept frees it", x, NONE, 0, 0, 0, 0);
        C.due("torn", x.tear(), 300);
        x.bring(4);
        printed("kept from the beginning again", x, NONE, 4);
    }

    // "its RIBBON (300 SIGNS ..)": each machine's is full when it has 300 itself.
    private static void eachHasItsOwnRibbon() {
        TickerHouse x = new TickerHouse();
        x.machine(0, 0, 0);
        x.slip(0, 0);
        give(x, PRINT, 300);
        C.due("the sender", x.about(NONE, 4), 300);
        C.due("the machine that lost one", x.about(0, 4), 299);
        C.due("one more at the sender's", x.wrong(0), 1);
        x.bring(5);
        C.due("the sender keeps no more", x.about(NONE, 4), 300);
        C.due("the machine does", x.about(0, 4), 300);
        C.due("its last one", x.ribbon(0, 299), 5);
        C.due("the last one differs", x.wrong(0), 1);
    }

    // "THE SENDER is a MACHINE that gets every PULSE."
    private static void theSenderGetsEveryPulse() {
        TickerHouse x = new TickerHouse();
        x.machine(0, 0, 1);
        x.line(0, 200, 50);
        x.slip(0, 0);
        x.bring(3);
        stands("without power", x, NONE, 3, 0, 0, 0);
        C.due("it lost none", x.about(NONE, 5), 0);
        C.due("the machine lost all", x.about(0, 5), 4);
        C.due("it is alive", x.about(NONE, 6), 1);
    }

    // "POWER less LENGTH times LOSS by 100, cut, less PACE times DULL"
    private static void lossIsCut() {
        TickerHouse x = new TickerHouse();
        x.machine(1, 0, 0);
        x.machine(199, 0, 0);
        x.machine(1000, 20, 0);
        x.line(1000, 99, 1);
        C.due("0.99 is cut to 0", x.over(0), 1000);
        C.due("197.01 is cut to 197", x.over(1), 803);
        C.due("990 and 20", x.over(2), -10);
        x.line(1000, 100, 50);
        C.due("1", x.over(0), 999);
        C.due("1000 and 1000", x.over(2), -1000);
        x.line(2000, 0, 1);
        C.due("no loss", x.over(1), 2000);
        x.line(2000, 200, 50);
        C.due("2000 and 1000", x.over(2), -1000);
    }

    // "A MACHINE gets a PULSE, if .. is NEED or more"
    private static void needOrMore() {
        TickerHouse x = new TickerHouse();
        x.machine(0, 0, 999);
        x.machine(0, 0, 1000);
        x.machine(2, 0, 1000);
        x.machine(0, 1, 1000);
        x.pulse(STEP);
        C.due("more", x.about(0, 0), 1);
        C.due("just as much", x.about(1, 0), 1);
        C.due("one less by the wire", x.about(2, 0), 0);
        C.due("one less by the wire: not got", x.about(2, 5), 1);
        C.due("less by being dull", x.about(3, 0), 0);
        C.due("less by being dull: not got", x.about(3, 5), 1);
        x.line(1001, 50, 1);
        x.pulse(STEP);
        C.due("the line is looked at pulse by pulse", x.about(2, 0), 1);
        C.due("a slower pace, too", x.about(3, 0), 1);
        x.line(0, 0, 1);
        x.machine(0, 0, 0);
        x.pulse(STEP);
        C.due("0 is enough for a need of 0", x.about(4, 0), 1);
        C.due("not for others", x.about(0, 0), 2);
    }

    // "are ALIVE (at first) or not. .. A MACHINE gets a PULSE, if it is ALIVE"
    private static void aliveOrNot() {
        TickerHouse x = new TickerHouse();
        x.machine(0, 0, 0);
        C.due("alive at first", x.about(0, 6), 1);
        x.bring(D + 4);
        x.alive(0, false);
        x.bring(7);
        x.pulse(SHIFT);
        stands("it stands as it stood", x, 0, 5, 1, 0, 0);
        C.due("it got none of these", x.about(0, 5), x.count(1) - 7);
        printed("it printed none of these", x, 0, D + 4);
        x.alive(0, true);
        x.pulse(STEP);
        stands("it goes on from there", x, 0, 6, 1, 1, 0);
    }

    // "no SLIP is told for that MACHINE and that number (40 SLIPS at most)"; "PULSES are numbered from 0 on."
    private static void slipOfThatMachineAndThatNumber() {
        TickerHouse x = new TickerHouse();
        x.machine(0, 0, 0);
        x.machine(0, 0, 0);
        x.slip(0, 0);
        x.slip(1, 1);
        C.due("the first is number 0", x.pulse(STEP), 0);
        stands("lost 0", x, 0, 0, 0, 0, 0);
        stands("has 0", x, 1, 1, 0, 1, 0);
        C.due("the second is number 1", x.pulse(STEP), 1);
        stands("has 1", x, 0, 1, 0, 1, 0);
        stands("lost 1", x, 1, 1, 0, 1, 0);
        for (int i = 3; i <= 40; i++) {
            x.slip(0, i);
        }
        C.due("forty", x.count(2), 40);
        x.pulse(STEP);
        stands("2 is not told", x, 0, 2, 0, 2, 0);
        x.pulse(STEP);
        stands("3 is the third one told", x, 0, 2, 0, 2, 0);
        while (x.count(1) < 40) {
            x.pulse(STEP);
        }
        x.pulse(STEP);
        stands("40 is the fortieth one told", x, 0, 2, 0, 2, 0);
        x.pulse(STEP);
        stands("41 is not told", x, 0, 3, 0, 3, 0);
        C.due("forty lost and no more", x.about(0, 5), 39);
    }

    // The same where a call gives many pulses: the first, one between, the last, those ahead and behind.
    private static void slipsInsideOneCall() {
        TickerHouse x = new TickerHouse();
        for (int i = 0; i < 6; i++) {
            x.machine(0, 0, 0);
        }
        x.pulse(PRINT);
        // Figure 3 (sign 30, place 4): the shift is 1, the steps are 2 .. 5, the print is 6.
        int[] lost = {0, 1, 2, 5, 6, 7};
        for (int i = 0; i < 6; i++) {
            x.slip(i, lost[i]);
        }
        C.due("six pulses", x.bring(30), 6);
        printed("a pulse that was", x, 0, 0, 30);
        printed("the shift", x, 1, 0, 4);
        printed("the first step", x, 2, 0, 29);
        printed("the last step", x, 3, 0, 29);
        printed("the print", x, 4, 0);
        printed("a pulse to come", x, 5, 0, 30);
        C.due("the pulse to come", x.pulse(PRINT), 7);
        printed("now it is lost", x, 5, 0, 30);
        printed("the others have it", x, 4, 0, 30);
    }

    // "a SHIFT, if the SIGN is not on its WHEEL (BLANK is on both)"
    private static void blankIsOnBoth() {
        TickerHouse x = new TickerHouse();
        C.due("on letters", x.bring(0), 1);
        C.due("a figure", x.bring(D), 3);
        C.due("on figures", x.bring(0), 28);
        stands("still on figures", x, NONE, 0, 1, 0, 0);
        C.due("the star is on letters", x.bring(STAR), 29);
        stands("on letters", x, NONE, 27, 0, 0, 0);
        C.due("sign 53 is on figures", x.bring(53), 2);
        stands("on figures", x, NONE, 27, 1, 0, 0);
    }

    // "STEPS till it is at its PLACE (the fewest; none if it is); PRINT."
    private static void noStepIfItIsThere() {
        TickerHouse x = new TickerHouse();
        x.bring(9);
        C.due("none", x.bring(9), 1);
        C.due("none but a shift", x.bring(D + 8), 2);
        C.due("one ahead: 27", x.bring(D + 7), 28);
        C.due("one behind: 1", x.bring(D + 8), 2);
        give(x, STEP, 28);
        C.due("once around: none", x.bring(D + 8), 1);
    }

    // "STOPPED, .. it PRINTS first (a BLANK), and the SIGN is brought then."
    private static void stoppedPrintsFirst() {
        int[] signs = {0, 1, 26, D, 53, STAR};
        int[] then = {1, 2, 27, 3, 29, 28};
        for (int i = 0; i < signs.length; i++) {
            TickerHouse x = new TickerHouse();
            give(x, STEP, 56);
            C.due("stopped, bring(" + signs[i] + ")", x.bring(signs[i]), 1 + then[i]);
            printed("stopped, bring(" + signs[i] + ")", x, NONE, 0, signs[i]);
        }
    }

    // ".. or as it comes to be by one of these STEPS, it PRINTS first (a BLANK), and the SIGN is brought then."
    private static void comesToBeStopped() {
        TickerHouse x = new TickerHouse();
        give(x, STEP, 30);
        C.due("a run of 55 is none: 25 steps", x.bring(STAR), 26);
        printed("a run of 55", x, NONE, STAR);
        TickerHouse y = new TickerHouse();
        give(y, STEP, 30);
        C.due("with 26 steps to blank: 26, print; print", y.bring(0), 28);
        printed("with 26 steps to blank", y, NONE, 0, 0);
        TickerHouse z = new TickerHouse();
        give(z, STEP, 40);
        // Place 12; letter 11 is 27 steps away, the 16th of them stops.
        C.due("16 steps, print; 11 steps, print", z.bring(11), 29);
        printed("on its way", z, NONE, 0, 11);
        TickerHouse w = new TickerHouse();
        give(w, STEP, 55);
        // On letters again by the stop, so that there is a second shift.
        C.due("shift, step, print; shift, 1 step, print", w.bring(D), 6);
        printed("with its shift", w, NONE, 0, D);
        stands("with its shift", w, NONE, 1, 1, 0, 0);
    }

    // "UNISON: 64 STEPS, then PRINT."
    private static void unisonFromAnywhere() {
        TickerHouse x = new TickerHouse();
        C.due("no machine", x.unison(), 0);
        C.due("65", x.count(1), 65);
        stands("from the beginning", x, NONE, 0, 0, 0, 0);
        x.bring(D + 6);
        x.unison();
        stands("from figures", x, NONE, 0, 0, 0, 0);
        printed("a blank each time", x, NONE, 0, D + 6, 0);
        give(x, STEP, 56);
        x.unison();
        stands("from the stop", x, NONE, 0, 0, 0, 0);
        C.due("a blank", x.ribbon(NONE, 3), 0);
    }

    // "UNISON": a machine comes to the stop if it gets 56 of the 64 steps on end, whatever it lost ahead.
    private static void unisonOfThoseThatLose() {
        TickerHouse x = new TickerHouse();
        for (int i = 0; i < 4; i++) {
            x.machine(0, 0, 0);
        }
        for (int i = 0; i < 8; i++) {
            x.slip(0, 7 * i);
            x.slip(1, 7 * i);
        }
        x.slip(1, 63);
        x.slip(2, 64);
        C.due("all but the one that lost nine", x.unison(), 3);
        stands("lost eight", x, 0, 0, 0, 0, 0);
        stands("lost nine, the last one too", x, 1, 27, 0, 0, 0);
        stands("lost the print: it stands there, stopped", x, 2, 0, 0, 56, 1);
        printed("lost eight", x, 0, 0);
        printed("lost nine", x, 1, STAR);
        printed("lost the print", x, 2);
        printed("lost none", x, 3, 0);
    }

    private static TickerHouse withFirms() {
        TickerHouse x = new TickerHouse();
        x.firm(1, 0, 0, 0);
        x.firm(1, 2, 0, 0);
        x.firm(26, 25, 24, 23);
        return x;
    }

    private static void written(String when, TickerHouse x, int firm, int price, int hundreds, int... want) {
        x.clear();
        C.due(when + ": how many", x.write(firm, price, hundreds), want.length);
        for (int i = 0; i < want.length; i++) {
            C.due(when + ": sign " + i, x.rowAt(i), want[i]);
        }
        C.due(when + ": last", x.last(firm), price);
    }

    // "DOLLARS (price by 8, cut): FULL in three digits at least (0s ahead), four if above 999"
    private static void dollarsOfThreeAndFourDigits() {
        TickerHouse x = withFirms();
        written("0", x, 0, 0, 1, 1, D, D, D, 0);
        written("0 7/8", x, 0, 7, 1, 1, D, D, D, EIGHTH + 7, 0);
        written("1", x, 0, 8, 1, 1, D, D, D + 1, 0);
        written("9", x, 0, 72, 1, 1, D, D, D + 9, 0);
        written("10", x, 0, 80, 1, 1, D, D + 1, D, 0);
        written("99", x, 0, 792, 1, 1, D, D + 9, D + 9, 0);
        written("100", x, 0, 800, 1, 1, D + 1, D, D, 0);
        written("999 7/8", x, 0, 7999, 1, 1, D + 9, D + 9, D + 9, EIGHTH + 7, 0);
        written("1000", x, 0, 8000, 1, 1, D + 1, D, D, D, 0);
        written("9999 7/8", x, 0, 79999, 1, 1, D + 9, D + 9, D + 9, D + 9, EIGHTH + 7, 0);
    }

    // "SHORT in two, DOLLARS less hundreds, allowed if the firm has a LAST price with the same hundreds
    //  (DOLLARS by 100, cut), and SHORTS are on (off at first)"
    private static void shortWithTheSameHundreds() {
        TickerHouse x = withFirms();
        written("off at first", x, 0, 0, 1, 1, D, D, D, 0);
        written("off: full though the hundreds are the same", x, 0, 0, 1, 1, D, D, D, 0);
        x.shorts(true);
        written("from 0 to 99 7/8", x, 0, 799, 1, 1, D + 9, D + 9, EIGHTH + 7, 0);
        written("from 99 7/8 to 100", x, 0, 800, 1, 1, D + 1, D, D, 0);
        written("from 100 to 99 7/8", x, 0, 799, 1, 1, D, D + 9, D + 9, EIGHTH + 7, 0);
        written("from 99 7/8 to 0", x, 0, 0, 1, 1, D, D, 0);
        written("a firm without a last price", x, 1, 0, 1, 1, 2, D, D, D, 0);
        written("999 7/8", x, 1, 7999, 1, 1, 2, D + 9, D + 9, D + 9, EIGHTH + 7, 0);
        written("from 999 7/8 to 1000", x, 1, 8000, 1, 1, 2, D + 1, D, D, D, 0);
        written("from 1000 to 1099", x, 1, 8792, 1, 1, 2, D + 9, D + 9, 0);
        written("from 1099 to 1100", x, 1, 8800, 1, 1, 2, D + 1, D + 1, D, D, 0);
        written("from 1100 to 100: the digits are the same, the hundreds not", x, 1, 800, 1, 1, 2, D + 1, D, D, 0);
        written("9900", x, 2, 79200, 1, 26, 25, 24, 23, D + 9, D + 9, D, D, 0);
        written("from 9900 to 9999 7/8", x, 2, 79999, 999, 26, 25, 24, 23, D + 9, D + 9, EIGHTH + 7, MARK, D + 9, D + 9, D + 9, 0);
        x.shorts(false);
        written("off again", x, 2, 79999, 1, 26, 25, 24, 23, D + 9, D + 9, D + 9, D + 9, EIGHTH + 7, 0);
    }

    // "then the eighth, if not 0"
    private static void eighthIfNot0() {
        TickerHouse x = withFirms();
        written("0", x, 0, 40, 1, 1, D, D, D + 5, 0);
        for (int e = 1; e <= 7; e++) {
            written(e + "/8", x, 0, 40 + e, 1, 1, D, D, D + 5, EIGHTH + e, 0);
        }
        written("8/8 is a dollar", x, 0, 48, 1, 1, D, D, D + 6, 0);
    }

    // "if the hundreds of shares are not 1, MARK 44 and these in digits without 0s ahead; BLANK."
    private static void sharesIfNot1() {
        TickerHouse x = withFirms();
        written("1", x, 0, 0, 1, 1, D, D, D, 0);
        written("2", x, 0, 0, 2, 1, D, D, D, MARK, D + 2, 0);
        written("9", x, 0, 0, 9, 1, D, D, D, MARK, D + 9, 0);
        written("10", x, 0, 0, 10, 1, D, D, D, MARK, D + 1, D, 0);
        written("99", x, 0, 0, 99, 1, D, D, D, MARK, D + 9, D + 9, 0);
        written("100", x, 0, 0, 100, 1, D, D, D, MARK, D + 1, D, D, 0);
        written("999", x, 0, 0, 999, 1, D, D, D, MARK, D + 9, D + 9, D + 9, 0);
    }

    private static void reads(String when, TickerHouse x, int quotes, int place, int sort, int... signs) {
        x.clear();
        for (int v : signs) {
            x.sign(v);
        }
        C.due(when + ": quotes", x.read(0), quotes);
        C.due(when + ": place", x.read(1), place);
        C.due(when + ": sort", x.read(2), sort);
    }

    // "QUOTES one behind the other, as far as it goes: BLANKS ahead of one are passed over"
    private static void blanksAreNoQuotes() {
        TickerHouse x = withFirms();
        reads("empty", x, 0, NONE, NONE);
        reads("a blank", x, 0, NONE, NONE, 0);
        reads("forty blanks", x, 0, NONE, NONE, new int[40]);
        reads("ahead", x, 1, NONE, NONE, 0, 0, 1, D, D, D, 0);
        reads("behind", x, 1, NONE, NONE, 1, D, D, D, 0, 0, 0);
        reads("between", x, 2, NONE, NONE, 1, D, D, D, 0, 0, 1, D, D, 0);
        reads("inside", x, 0, 1, 1, 1, 0, D, D, D, 0);
        int[] forty = new int[40];
        for (int i = 0; i < 40; i += 4) {
            forty[i] = 1;
            forty[i + 1] = D + 2;
            forty[i + 2] = D;
        }
        x.clear();
        x.write(0, 800, 1);
        reads("ten in forty signs", x, 10, NONE, NONE, forty);
        C.due("the tenth", x.readAt(9, 1), 120 * 8);
        forty[39] = D;
        reads("the last one has no end", x, 9, 40, 4, forty);
        C.due("no tenth", x.readAt(9, 1), NONE);
    }

    // "letters, as many as there are, are a CODE of a firm"; "2 letters that are no CODE (told at the last
    //  letter's place and 1)"
    private static void lettersAsManyAsThereAre() {
        TickerHouse x = withFirms();
        reads("one is a code", x, 1, NONE, NONE, 1, D, D, D, 0);
        reads("two are a code", x, 1, NONE, NONE, 1, 2, D, D, D, 0);
        reads("four are a code", x, 1, NONE, NONE, 26, 25, 24, 23, D, D, D, 0);
        reads("the beginning of a code", x, 0, 3, 2, 26, 25, 24, D, D, D, 0);
        x.firm(26, 25, 24, 0);
        reads("three are a code", x, 1, NONE, NONE, 26, 25, 24, D, D, D, 0);
        C.due("the firm", x.readAt(0, 0), 3);
        reads("two of them are none", x, 0, 2, 2, 26, 25, D, D, D, 0);
        reads("four are still a code", x, 1, NONE, NONE, 26, 25, 24, 23, D, D, D, 0);
        C.due("the firm", x.readAt(0, 0), 2);
        reads("three, and no digit behind them", x, 0, 3, 1, 26, 25, 24, 0, D, D, D, 0);
        reads("a code and a letter", x, 0, 3, 2, 1, 2, 3, D, D, D, 0);
        reads("two codes", x, 0, 2, 2, 1, 1, D, D, D, 0);
        reads("a code of four and a letter", x, 0, 5, 2, 26, 25, 24, 23, 1, D, D, D, 0);
        reads("behind blanks", x, 0, 3, 2, 0, 0, 2, D, D, D, 0);
        reads("at the row's end", x, 0, 1, 2, 2);
        reads("what is behind is not looked at", x, 0, 1, 2, 2, STAR);
        int[] forty = new int[40];
        java.util.Arrays.fill(forty, 1);
        reads("forty letters", x, 0, 40, 2, forty);
        reads("a star is no letter", x, 0, 0, 1, STAR, D, D, D, 0);
        reads("a star behind a code", x, 0, 1, 1, 1, STAR, D, D, D, 0);
        reads("no letter", x, 0, 0, 1, D, D, D, 0);
        reads("no letter, the second time", x, 1, 5, 1, 1, D, D, D, 0, D);
    }

    // "two digits: SHORT ..; three or four: FULL; perhaps an eighth"; "1 a SIGN that can't be there"
    private static void digitsTwoToFour() {
        TickerHouse x = withFirms();
        reads("none", x, 0, 1, 1, 1, EIGHTH + 1, 0);
        reads("none, a mark", x, 0, 1, 1, 1, MARK, D + 2, 0);
        reads("one", x, 0, 2, 1, 1, D, 0);
        reads("one and an eighth", x, 0, 2, 1, 1, D, EIGHTH + 7, 0);
        reads("one and a letter", x, 0, 2, 1, 1, D, 1);
        reads("three", x, 1, NONE, NONE, 1, D + 1, D, D, 0);
        C.due("three: its price", x.readAt(0, 1), 800);
        reads("four", x, 1, NONE, NONE, 1, D + 1, D, D, D, 0);
        C.due("four: its price", x.readAt(0, 1), 8000);
        reads("the greatest", x, 1, NONE, NONE, 1, D + 9, D + 9, D + 9, D + 9, EIGHTH + 7, 0);
        C.due("the greatest: its price", x.readAt(0, 1), 79999);
        reads("the least", x, 1, NONE, NONE, 1, D, D, D, 0);
        C.due("the least: its price", x.readAt(0, 1), 0);
        reads("five", x, 0, 5, 1, 1, D, D, D, D, D, 0);
        reads("two eighths", x, 0, 5, 1, 1, D, D, D, EIGHTH + 1, EIGHTH + 1, 0);
        reads("a digit behind an eighth", x, 0, 5, 1, 1, D, D, D, EIGHTH + 1, D, 0);
        reads("an eighth behind shares", x, 0, 6, 1, 1, D, D, D, MARK, D + 2, EIGHTH + 1, 0);
        reads("mark 45", x, 0, 4, 1, 1, D, D, D, 45, D + 2, 0);
        reads("mark 53", x, 0, 4, 1, 1, D, D, D, 53, D + 2, 0);
        reads("a star", x, 0, 4, 1, 1, D, D, D, STAR, 0);
        reads("the next code without a blank", x, 0, 4, 1, 1, D, D, D, 1, D, D, D, 0);
    }

    // "SHORT (the firm must have a LAST price: as it is read on, QUOTES ahead count)"; "3 SHORT without a LAST
    //  price (told at the first digit; looked at as soon as behind two digits there is no third one)"
    private static void shortNeedsALastPrice() {
        TickerHouse x = withFirms();
        reads("a blank behind two", x, 0, 1, 3, 1, D, D, 0);
        reads("an eighth behind two", x, 0, 1, 3, 1, D, D, EIGHTH + 1, 0);
        reads("the mark behind two", x, 0, 1, 3, 1, D, D, MARK, D + 2, 0);
        reads("what can't be there behind two", x, 0, 1, 3, 1, D, D, STAR);
        reads("the row's end behind two", x, 0, 1, 3, 1, D, D);
        reads("the row's end behind one", x, 0, 2, 4, 1, D);
        reads("a third one", x, 0, 4, 4, 1, D, D, D);
        reads("another firm's price does not count", x, 1, 7, 3, 1, D, D, D, 0, 1, 2, D, D, 0);
        reads("its own does", x, 2, NONE, NONE, 1, D + 7, D, D + 1, 0, 1, D + 9, D + 9, EIGHTH + 7, 0);
        C.due("with its hundreds", x.readAt(1, 1), 799 * 8 + 7);
        C.due("reading tells nothing", x.last(0), NONE);
        reads("so it is none when read again", x, 0, 1, 3, 1, D + 9, D + 9, 0);
        reads("a short one counts, too", x, 3, NONE, NONE, 1, D + 9, D + 9, D, D, 0, 1, D + 1, D, 0, 1, D, D, EIGHTH + 1, 0);
        C.due("9900 and an eighth", x.readAt(2, 1), 79201);
        x.clear();
        x.write(0, 0, 1);
        reads("a last price of 0 is one", x, 1, NONE, NONE, 1, D + 9, D + 9, 0);
        C.due("99", x.readAt(0, 1), 792);
        reads("the row's end, with a last price", x, 0, 3, 4, 1, D, D);
        reads("a star, with a last price", x, 0, 3, 1, 1, D, D, STAR);
    }

    // "perhaps MARK 44 and one to three digits, the first not 0, not 1 alone; BLANK."
    private static void sharesOneToThreeDigits() {
        TickerHouse x = withFirms();
        int[][] digits = {{2}, {9}, {1, 0}, {1, 1}, {9, 9}, {1, 0, 0}, {9, 9, 9}};
        int[] want = {2, 9, 10, 11, 99, 100, 999};
        for (int i = 0; i < want.length; i++) {
            int[] row = new int[6 + digits[i].length];
            row[0] = 1;
            row[1] = row[2] = row[3] = D;
            row[4] = MARK;
            for (int k = 0; k < digits[i].length; k++) {
                row[5 + k] = D + digits[i][k];
            }
            reads(want[i] + " hundred", x, 1, NONE, NONE, row);
            C.due(want[i] + " hundred", x.readAt(0, 2), want[i]);
        }
        reads("without a mark", x, 1, NONE, NONE, 1, D, D, D, 0);
        C.due("without a mark: 1", x.readAt(0, 2), 1);
        reads("none", x, 0, 5, 1, 1, D, D, D, MARK, 0);
        reads("0 first", x, 0, 5, 1, 1, D, D, D, MARK, D, D + 1, 0);
        reads("1 alone", x, 0, 6, 1, 1, D, D, D, MARK, D + 1, 0);
        reads("1 and a letter", x, 0, 6, 1, 1, D, D, D, MARK, D + 1, 1);
        reads("four", x, 0, 8, 1, 1, D, D, D, MARK, D + 1, D, D, D, 0);
        reads("two marks", x, 0, 5, 1, 1, D, D, D, MARK, MARK, D + 2, 0);
        reads("no blank", x, 0, 6, 1, 1, D, D, D, MARK, D + 2, 1);
    }

    // "the place in the row (how many there are, if it ends too early) ..; 4 it ends too early."
    private static void endsTooEarly() {
        TickerHouse x = withFirms();
        int[] whole = {1, 2, D + 1, D, D, D, EIGHTH + 1, MARK, D + 1, D, D, 0};
        // Behind the two digits of a price there is no third one: that fault comes ahead of this one.
        for (int n = 1; n < whole.length; n++) {
            if (n != 4) {
                reads(n + " signs", x, 0, n, 4, java.util.Arrays.copyOf(whole, n));
            }
        }
        reads("all of them", x, 1, NONE, NONE, whole);
        reads("the second one", x, 1, 6, 4, 1, D, D, D, 0, 1);
    }
}
