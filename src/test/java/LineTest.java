/** Promises 1 to 13: a new object, machines, the line, pulses, ribbons. */
public final class LineTest {
    private static final Check C = new Check();
    private static final int NONE = TickerHouse.NONE, BAD = TickerHouse.BAD, NO = TickerHouse.NO, FULL = TickerHouse.FULL;

    public static void main(String[] args) {
        newObject();
        machines();
        living();
        theLine();
        slips();
        strength();
        steps();
        stops();
        shifts();
        bringing();
        bringingWhenStopped();
        unison();
        ribbons();
        wrongSigns();
        slipsToldTwice();
        fullOfPulses();
        lastUnison();
        C.end();
    }

    private static void pulses(TickerHouse x, int kind, int n) {
        for (int i = 0; i < n; i++) {
            x.pulse(kind);
        }
    }

    private static void stands(String when, TickerHouse x, int machine, int... want) {
        for (int what = 0; what < want.length; what++) {
            C.due(when + ": about(" + machine + ", " + what + ")", x.about(machine, what), want[what]);
        }
    }

    private static void newObject() {
        TickerHouse x = new TickerHouse();
        for (int what = 0; what <= 5; what++) {
            C.due("new: count(" + what + ")", x.count(what), 0);
        }
        stands("new", x, NONE, 0, 0, 0, 0, 0, 0, 1);
        C.due("new: about(0, 0)", x.about(0, 0), BAD);
        C.due("new: last(0)", x.last(0), BAD);
        C.due("new: minutes(0)", x.minutes(0), BAD);
        C.due("new: rowAt(0)", x.rowAt(0), NONE);
        C.due("new: ribbon(-1, 0)", x.ribbon(NONE, 0), NONE);
    }

    private static void machines() {
        TickerHouse x = new TickerHouse();
        C.due("length too small", x.machine(-1, 0, 0), BAD);
        C.due("length too great", x.machine(1001, 0, 0), BAD);
        C.due("dull too small", x.machine(0, -1, 0), BAD);
        C.due("dull too great", x.machine(0, 21, 0), BAD);
        C.due("need too small", x.machine(0, 0, -1), BAD);
        C.due("need too great", x.machine(0, 0, 1001), BAD);
        C.due("refused ones change nothing", x.count(0), 0);
        C.due("least machine", x.machine(0, 0, 0), 0);
        x.bring(30);
        C.due("greatest machine", x.machine(1000, 20, 1000), 1);
        stands("a new one stands as at first", x, 1, 0, 0, 0, 0, 0, 0, 1);
        for (int i = 2; i < 8; i++) {
            C.due("machine " + i, x.machine(1, 1, 1), i);
        }
        C.due("a ninth", x.machine(1, 1, 1), FULL);
        C.due("a bad ninth", x.machine(1, 1, 1001), BAD);
        C.due("eight", x.count(0), 8);
    }

    private static void living() {
        TickerHouse x = new TickerHouse();
        C.due("none there", x.alive(0, false), BAD);
        x.machine(0, 0, 0);
        C.due("the sender", x.alive(NONE, false), BAD);
        C.due("alive at first", x.alive(0, true), NO);
        C.due("alive no more", x.alive(0, false), 1);
        C.due("alive no more, again", x.alive(0, false), NO);
        C.due("told", x.about(0, 6), 0);
        x.pulse(0);
        stands("not alive it gets nothing", x, 0, 0, 0, 0, 0, 0, 1, 0);
        C.due("alive again", x.alive(0, true), 1);
        x.pulse(0);
        stands("alive it gets it", x, 0, 1, 0, 1, 0, 0, 1, 1);
    }

    private static void theLine() {
        TickerHouse x = new TickerHouse();
        C.due("power", x.line(-1, 0, 1), BAD);
        C.due("power", x.line(2001, 0, 1), BAD);
        C.due("loss", x.line(0, -1, 1), BAD);
        C.due("loss", x.line(0, 201, 1), BAD);
        C.due("pace", x.line(0, 0, 0), BAD);
        C.due("pace", x.line(0, 0, 51), BAD);
        C.due("pace at first", x.count(6), 5);
        x.machine(10, 1, 0);
        C.due("at first 1000, 50, 5", x.over(0), 990);
        C.due("least", x.line(0, 0, 1), 1);
        C.due("power 0, loss 0, pace 1", x.over(0), -1);
        C.due("greatest", x.line(2000, 200, 50), 1);
        C.due("power 2000, loss 200, pace 50", x.over(0), 1930);
        C.due("pace", x.count(6), 50);
    }

    private static void slips() {
        TickerHouse x = new TickerHouse();
        C.due("no machine", x.slip(0, 0), BAD);
        x.machine(0, 0, 0);
        x.machine(0, 0, 0);
        C.due("the sender", x.slip(NONE, 0), BAD);
        C.due("pulse below 0", x.slip(0, -1), BAD);
        C.due("pulse above", x.slip(0, 100001), BAD);
        x.pulse(0);
        C.due("of a pulse that was", x.slip(0, 0), 1);
        C.due("the last pulse", x.slip(1, 100000), 2);
        C.due("the second pulse from now", x.slip(0, 2), 3);
        C.due("told again", x.slip(0, 2), 4);
        pulses(x, 0, 3);
        stands("one step lost, once", x, 0, 3, 0, 3, 0, 0, 1);
        stands("the other one has it", x, 1, 4, 0, 4, 0, 0, 0);
        x.slip(0, 4);
        x.pulse(1);
        C.due("a lost print", x.about(0, 4), 0);
        C.due("the run goes on", x.about(0, 2), 3);
        for (int i = 6; i <= 40; i++) {
            C.due("slip " + i, x.slip(1, 1000 + i), i);
        }
        C.due("one more", x.slip(1, 1), FULL);
        C.due("a bad one", x.slip(2, 1), BAD);
        C.due("forty", x.count(2), 40);
    }

    private static void slipsToldTwice() {
        TickerHouse x = new TickerHouse();
        x.machine(0, 0, 0);
        for (int i = 0; i < 3; i++) {
            C.due("told " + (i + 1) + " times", x.slip(0, 1), i + 1);
        }
        x.bring(5);
        stands("one step is lost", x, 0, 4, 0, 0, 0, 1, 1);
    }

    private static void strength() {
        TickerHouse x = new TickerHouse();
        C.due("none", x.over(0), -100000);
        x.machine(33, 3, 100);
        C.due("the sender", x.over(NONE), -100000);
        C.due("1000 - 16 (16.5 cut) - 15 - 100", x.over(0), 869);
        x.slip(0, 0);
        x.alive(0, false);
        C.due("slips are not looked at", x.over(0), 869);
        x.alive(0, true);
        x.line(131, 50, 5);
        C.due("just enough", x.over(0), 0);
        pulses(x, 0, 2);
        stands("gets it", x, 0, 1, 0, 1, 0, 0, 1);
        x.line(130, 50, 5);
        C.due("just not enough", x.over(0), -1);
        x.pulse(0);
        stands("does not get it", x, 0, 1, 0, 1, 0, 0, 2);
        x.machine(1000, 20, 1000);
        x.line(0, 200, 50);
        C.due("the least", x.over(1), -4000);
    }

    private static void steps() {
        TickerHouse x = new TickerHouse();
        C.due("kind -1", x.pulse(-1), BAD);
        C.due("kind 3", x.pulse(3), BAD);
        C.due("none was given", x.count(1), 0);
        C.due("the first", x.pulse(0), 0);
        C.due("the second", x.pulse(0), 1);
        pulses(x, 0, 25);
        stands("27 steps", x, NONE, 27, 0, 27, 0, 0);
        x.pulse(0);
        stands("behind 27 comes 0", x, NONE, 0, 0, 28, 0, 0);
        x.pulse(0);
        x.pulse(1);
        stands("printed", x, NONE, 1, 0, 0, 0, 1);
        C.due("a letter", x.ribbon(NONE, 0), 1);
        pulses(x, 0, 26);
        x.pulse(1);
        C.due("the star", x.ribbon(NONE, 1), 54);
        x.pulse(2);
        x.pulse(1);
        C.due("the last figure", x.ribbon(NONE, 2), 53);
    }

    private static void stops() {
        TickerHouse x = new TickerHouse();
        pulses(x, 0, 3);
        x.pulse(1);
        x.pulse(2);
        pulses(x, 0, 55);
        stands("55 on end", x, NONE, 2, 1, 55, 0, 1);
        x.pulse(0);
        stands("56 on end", x, NONE, 0, 0, 56, 1, 1);
        x.pulse(0);
        x.pulse(2);
        stands("stopped, steps and shifts do nothing", x, NONE, 0, 0, 56, 1, 1);
        x.pulse(1);
        stands("print sets it free", x, NONE, 0, 0, 0, 0, 2);
        C.due("a blank", x.ribbon(NONE, 1), 0);
        x.pulse(0);
        stands("a step", x, NONE, 1, 0, 1, 0, 2);
    }

    private static void shifts() {
        TickerHouse x = new TickerHouse();
        pulses(x, 0, 5);
        x.pulse(2);
        stands("a shift leaves place and run", x, NONE, 5, 1, 5, 0, 0);
        x.pulse(1);
        C.due("figure 5", x.ribbon(NONE, 0), 31);
        x.pulse(2);
        stands("back", x, NONE, 5, 0, 0, 0, 1);
    }

    private static void bringing() {
        TickerHouse x = new TickerHouse();
        C.due("sign -1", x.bring(-1), BAD);
        C.due("sign 55", x.bring(55), BAD);
        C.due("blank at place 0", x.bring(0), 1);
        C.due("letter 5", x.bring(5), 6);
        C.due("letter 5 again", x.bring(5), 1);
        C.due("letter 4: all around", x.bring(4), 28);
        C.due("figure at the same place", x.bring(30), 2);
        C.due("blank needs no shift", x.bring(0), 25);
        C.due("still on figures", x.about(NONE, 1), 1);
        C.due("the star", x.bring(54), 29);
        C.due("the last figure", x.bring(53), 2);
        int[] want = {0, 5, 5, 4, 30, 0, 54, 53};
        for (int i = 0; i < want.length; i++) {
            C.due("brought " + i, x.ribbon(NONE, i), want[i]);
        }
        C.due("pulses", x.count(1), 94);
    }

    private static void bringingWhenStopped() {
        TickerHouse x = new TickerHouse();
        pulses(x, 0, 60);
        C.due("stopped: a blank first, then shift, 2 steps, print", x.bring(28), 5);
        C.due("the blank", x.ribbon(NONE, 0), 0);
        C.due("the sign", x.ribbon(NONE, 1), 28);
        // Place 2 on figures; 50 steps on: place 24, run 50. Letter 3 is 7 steps away, the 6th stops.
        pulses(x, 0, 50);
        C.due("stops on its way: shift, 6 steps, print, 3 steps, print", x.bring(3), 12);
        C.due("the blank", x.ribbon(NONE, 2), 0);
        C.due("the sign", x.ribbon(NONE, 3), 3);
        // Place 3 on letters; 53 steps on: place 0, run 53. Letter 3 is 3 steps away, the 3rd stops.
        pulses(x, 0, 53);
        C.due("stops as it arrives", x.bring(3), 8);
        C.due("the blank", x.ribbon(NONE, 4), 0);
        C.due("the sign", x.ribbon(NONE, 5), 3);
        x.bring(0);
        pulses(x, 0, 55);
        C.due("a blank that stops as it arrives is printed first and brought then", x.bring(0), 3);
        C.due("two blanks", x.about(NONE, 4), 9);
        pulses(x, 0, 60);
        C.due("stopped, a blank", x.bring(0), 2);
    }

    private static void unison() {
        TickerHouse x = new TickerHouse();
        C.due("without machines", x.unison(), 0);
        C.due("65 pulses", x.count(1), 65);
        x.machine(0, 0, 0);
        x.machine(0, 0, 0);
        x.machine(0, 0, 1000);
        x.machine(0, 1, 1000);
        x.slip(1, 66);
        x.bring(30);
        C.due("astray", x.about(1, 0), 3);
        C.due("a machine that gets nothing stands at 0, too", x.unison(), 4);
        stands("after it", x, 1, 0, 0, 0, 0, 2);
        // A machine that loses 9 of the 64 steps is not stopped.
        int from = x.count(1);
        for (int i = 0; i < 8; i++) {
            x.slip(0, from + i);
            x.slip(1, from + i);
        }
        x.slip(1, from + 8);
        C.due("one that lost nine is astray", x.unison(), 3);
        stands("lost eight", x, 0, 0, 0, 0, 0, 3);
        stands("lost nine", x, 1, 27, 0, 0, 0, 3);
        x.alive(0, false);
        C.due("those that are not alive are not counted", x.unison(), 3);
        // What is left on figures at place 0 does not stand as the sender does.
        x.alive(0, true);
        from = x.count(1);
        x.pulse(2);
        x.alive(0, false);
        C.due("unison", x.unison(), 3);
        x.alive(0, true);
        C.due("on figures", x.about(0, 1), 1);
    }

    private static void ribbons() {
        TickerHouse x = new TickerHouse();
        C.due("no machine", x.about(0, 0), BAD);
        C.due("what", x.about(NONE, -1), BAD);
        C.due("what", x.about(NONE, 7), BAD);
        C.due("machine -2", x.about(-2, 0), BAD);
        C.due("machine -2", x.ribbon(-2, 0), BAD);
        C.due("no machine", x.ribbon(0, 0), BAD);
        C.due("i below 0", x.ribbon(NONE, -1), BAD);
        C.due("none torn", x.tear(), 0);
        x.machine(0, 0, 0);
        for (int i = 0; i < 299; i++) {
            x.pulse(1);
        }
        x.pulse(0);
        x.pulse(1);
        C.due("300 signs", x.about(0, 4), 300);
        C.due("the last", x.ribbon(0, 299), 1);
        x.pulse(0);
        x.pulse(1);
        C.due("no more is kept", x.about(0, 4), 300);
        C.due("the last stays", x.ribbon(NONE, 299), 1);
        C.due("behind it", x.ribbon(NONE, 300), NONE);
        C.due("printed all the same", x.about(0, 2), 0);
        C.due("torn", x.tear(), 300);
        C.due("empty", x.about(0, 4), 0);
        C.due("empty", x.ribbon(0, 0), NONE);
        C.due("place stays", x.about(0, 0), 2);
        x.pulse(1);
        C.due("printed anew", x.ribbon(0, 0), 2);
    }

    private static void wrongSigns() {
        TickerHouse x = new TickerHouse();
        C.due("no machine", x.wrong(0), BAD);
        x.machine(0, 0, 0);
        C.due("the sender", x.wrong(NONE), BAD);
        C.due("none printed", x.wrong(0), 0);
        x.slip(0, 0);
        x.bring(2);
        C.due("one differs", x.wrong(0), 1);
        C.due("it printed one before", x.ribbon(0, 0), 1);
        x.slip(0, x.count(1));
        x.bring(2);
        C.due("one differs, one is more", x.wrong(0), 2);
        x.machine(0, 0, 0);
        C.due("all are more", x.wrong(1), 2);
        x.bring(2);
        C.due("first with first: a blank for letter 2, two more", x.wrong(1), 3);
        x.tear();
        C.due("torn", x.wrong(1), 0);
    }

    /** Rows get near the end in few calls. */
    private static void lastUnison() {
        TickerHouse x = new TickerHouse();
        for (int i = 0; i < 40; i++) {
            x.sign(i < 26 ? 26 - i : 40 - i);
        }
        while (x.count(1) < 98800) {
            x.send();
        }
        while (x.count(1) <= 100001 - 130) {
            x.unison();
        }
        while (x.count(1) < 100001 - 65) {
            x.pulse(1);
        }
        C.due("65 are left", x.unison(), 0);
        C.due("none is left", x.count(1), 100001);
        C.due("none more", x.unison(), FULL);
    }

    /** With rows of 1104 pulses: 100001 of them are all that there are. */
    private static void fullOfPulses() {
        TickerHouse x = new TickerHouse();
        x.machine(0, 0, 0);
        x.slip(0, 100000);
        for (int i = 0; i < 40; i++) {
            x.sign(i < 26 ? 26 - i : 40 - i);
        }
        // From letter 14 - 13 = 1 to letter 26 it is 25 steps, from 0 on 26.
        int sent = x.send();
        C.due("the first time", sent, 27 + 25 * 28 + 14 + 13 * 28);
        int all = sent;
        for (int i = 0; i < 89; i++) {
            all += x.send();
        }
        C.due("90 times", all, 1105 + 89 * 1104);
        C.due("pulses", x.count(1), all);
        C.due("once more", x.send(), FULL);
        C.due("nothing is changed", x.count(1), all);
        C.due("nothing is changed", x.about(NONE, 0), 1);
        x.clear();
        int left = 100001 - all;
        while (left > 140) {
            left -= x.unison() >= 0 ? 65 : 0;
        }
        while (left > 64) {
            x.pulse(1);
            left--;
        }
        C.due("a unison has no room", x.unison(), FULL);
        while (left > 5) {
            x.pulse(1);
            left--;
        }
        C.due("five left, six needed", x.bring(5), FULL);
        C.due("five left, five needed", x.bring(4), 5);
        C.due("100001 pulses", x.count(1), 100001);
        C.due("the last one was a slip", x.about(0, 5), 1);
        C.due("no pulse more", x.pulse(0), FULL);
        C.due("no blank more", x.bring(0), FULL);
        C.due("a bad pulse", x.pulse(3), BAD);
        C.due("a bad sign", x.bring(55), BAD);
        C.due("an empty row has room", x.send(), 0);
        C.due("an empty row costs nothing", x.cost(0, 7), 0);
        x.sign(0);
        C.due("a sign has none", x.send(), FULL);
        C.due("no room to try it", x.cost(0, 0), FULL);
        C.due("no room to try it", x.often(0), FULL);
        C.due("a bad k", x.cost(21, 0), BAD);
    }
}
