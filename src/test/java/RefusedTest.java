/**
 * "Refused, changing nothing, the first of: BAD -2 a number is not as told; NO -3 as told; FULL -4": each call that can
 * be refused, on an object on which all is full, held against one of which nothing was asked that is refused.
 */
public final class RefusedTest {
    private static final Check C = new Check();
    private static final int NONE = TickerHouse.NONE, BAD = TickerHouse.BAD, NO = TickerHouse.NO, FULL = TickerHouse.FULL;

    public static void main(String[] args) {
        badAheadOfFull();
        badAheadOfNo();
        noAheadOfFull();
        badAheadOfNone();
        changingNothing();
        badChangesNothing();
        withoutPulsesNothingIsChanged();
        C.end();
    }

    /** Eight machines, forty slips, twelve firms, twelve quotes, a row of forty signs that is no quote. */
    private static TickerHouse full() {
        TickerHouse x = new TickerHouse();
        for (int i = 0; i < 8; i++) {
            x.machine(100 * i, i, 100 * i);
        }
        for (int i = 0; i < 40; i++) {
            x.slip(i % 8, 7 * i);
        }
        for (int i = 0; i < 12; i++) {
            x.firm(i + 1, 2, 0, 0);
            x.add(3 * i, 200, i, 801 * i, i + 1);
        }
        x.write(0, 805, 3);
        x.write(3, 4321, 1);
        x.clear();
        x.bring(9);
        for (int i = 0; i < 40; i++) {
            x.sign(i % 2 == 0 ? 45 : i);
        }
        x.alive(5, false);
        x.shorts(true);
        x.line(900, 70, 3);
        return x;
    }

    private static void badAheadOfFull() {
        TickerHouse x = full();
        C.due("machine", x.machine(1001, 0, 0), BAD);
        C.due("machine", x.machine(0, 21, 0), BAD);
        C.due("machine", x.machine(0, 0, 1001), BAD);
        C.due("machine, full", x.machine(0, 0, 0), FULL);
        C.due("slip", x.slip(8, 0), BAD);
        C.due("slip", x.slip(0, 100001), BAD);
        C.due("slip, full", x.slip(0, 0), FULL);
        C.due("sign", x.sign(55), BAD);
        C.due("sign, full", x.sign(0), FULL);
        C.due("cut", x.cut(8, 0, 1), BAD);
        C.due("cut", x.cut(0, -1, 1), BAD);
        C.due("cut, not so many", x.cut(NONE, 0, 2), BAD);
        C.due("cut, full", x.cut(NONE, 0, 1), FULL);
        C.due("firm", x.firm(13, 0, 1, 0), BAD);
        C.due("firm, full", x.firm(13, 0, 0, 0), FULL);
        C.due("write", x.write(12, 0, 1), BAD);
        C.due("write", x.write(0, 80000, 1), BAD);
        C.due("write", x.write(0, 0, 1000), BAD);
        C.due("write, full", x.write(0, 0, 1), FULL);
        C.due("add", x.add(1001, 1001, 0, 0, 1), BAD);
        C.due("add", x.add(5, 4, 0, 0, 1), BAD);
        C.due("add", x.add(5, 5, 12, 0, 1), BAD);
        C.due("add", x.add(5, 5, 0, 80000, 1), BAD);
        C.due("add", x.add(5, 5, 0, 0, 0), BAD);
        C.due("add, full", x.add(5, 5, 0, 0, 1), FULL);
    }

    private static void badAheadOfNo() {
        TickerHouse x = full();
        C.due("alive", x.alive(8, true), BAD);
        C.due("alive", x.alive(-1, true), BAD);
        C.due("alive, it is so", x.alive(0, true), NO);
        C.due("alive, it is so", x.alive(5, false), NO);
        C.due("firm", x.firm(1, 2, 0, 1), BAD);
        C.due("firm", x.firm(1, 2, 27, 0), BAD);
    }

    private static void noAheadOfFull() {
        TickerHouse x = full();
        C.due("another one's code, though there are twelve", x.firm(1, 2, 0, 0), NO);
        C.due("the twelfth's", x.firm(12, 2, 0, 0), NO);
        C.due("no one's", x.firm(12, 2, 1, 0), FULL);
    }

    /** NONE is an answer, no refusal: a number that is not as told comes ahead of it. */
    private static void badAheadOfNone() {
        TickerHouse x = new TickerHouse();
        C.due("ribbon", x.ribbon(0, 0), BAD);
        C.due("ribbon", x.ribbon(NONE, -1), BAD);
        C.due("readAt", x.readAt(0, 3), BAD);
        C.due("orderAt", x.orderAt(1001, 0), BAD);
        C.due("tape", x.tape(0, 3), BAD);
        C.due("price", x.price(0, 0, 0), BAD);
        C.due("repairAt", x.repairAt(-1), BAD);
        C.due("last", x.last(0), BAD);
    }

    /** Every call that is refused as FULL or NO, on one of two objects that are alike. */
    private static void changingNothing() {
        TickerHouse x = full();
        TickerHouse y = full();
        int[] answers = {x.machine(1, 1, 1), x.slip(1, 1), x.sign(1), x.cut(NONE, 0, 1), x.firm(26, 0, 0, 0),
            x.write(1, 1, 2), x.add(1, 1, 1, 1, 1)};
        for (int a : answers) {
            C.due("full", a, FULL);
        }
        int[] more = {x.alive(1, true), x.alive(5, false), x.firm(4, 2, 0, 0), x.take(), x.mend()};
        for (int a : more) {
            C.due("no", a, NO);
        }
        standAlike(x, y);
    }

    /** Every call that is refused as BAD, with all its other numbers good and other than what is there. */
    private static void badChangesNothing() {
        TickerHouse x = full();
        TickerHouse y = full();
        int[] answers = {x.machine(-1, 1, 1), x.alive(8, false), x.line(2001, 1, 1), x.line(1, 201, 1), x.line(1, 1, 51),
            x.line(1, 1, 0), x.slip(0, -1), x.pulse(3), x.bring(55), x.about(8, 0), x.ribbon(0, -1), x.wrong(NONE), x.sign(-1),
            x.cut(0, 0, -1), x.firm(0, 1, 1, 1), x.last(12), x.write(0, -1, 1), x.read(3), x.readAt(-1, 0),
            x.add(-1, 5, 0, 0, 1), x.minutes(12), x.most(-1, 0), x.orderAt(-1, 0), x.tape(-1, 0), x.price(12, 0, 0),
            x.repairAt(-1), x.cost(21, 0), x.cost(0, 1001), x.often(1001), x.count(8)};
        for (int a : answers) {
            C.due("bad", a, BAD);
        }
        C.due("over's own", x.over(8), -100000);
        standAlike(x, y);
    }

    /** What the digest tells, what can be asked for beside it, and what comes of the same calls from then on. */
    private static void standAlike(TickerHouse x, TickerHouse y) {
        C.due("digest", x.digest(), y.digest());
        for (int m = 0; m < 8; m++) {
            C.due("over(" + m + ")", x.over(m), y.over(m));
        }
        for (int q = 0; q < 12; q++) {
            C.due("minutes(" + q + ")", x.minutes(q), y.minutes(q));
            C.due("orderAt(0, " + q + ")", x.orderAt(0, q), y.orderAt(0, q));
        }
        C.due("most", x.most(0, 0), y.most(0, 0));
        C.due("cost", x.cost(3, 7), y.cost(3, 7));
        C.due("send", x.send(), y.send());
        C.due("clear", x.clear(), y.clear());
        C.due("write", x.write(0, 806, 1), y.write(0, 806, 1));
        C.due("write", x.write(3, 4300, 1), y.write(3, 4300, 1));
        C.due("write", x.write(1, 4300, 1), y.write(1, 4300, 1));
        C.due("send", x.send(), y.send());
        C.due("digest then", x.digest(), y.digest());
    }

    /** All pulses but three are gone: what needs more is refused, whole. */
    private static void withoutPulsesNothingIsChanged() {
        TickerHouse x = new TickerHouse();
        x.machine(0, 0, 0);
        for (int i = 0; i < 40; i++) {
            x.sign(i < 26 ? 26 - i : 40 - i);
        }
        while (x.send() != FULL) {
            continue;
        }
        while (x.unison() != FULL) {
            continue;
        }
        while (x.count(1) < 100001 - 3) {
            x.pulse(1);
        }
        long before = x.digest();
        C.due("bring", x.bring(3), FULL);
        C.due("bring", x.bring(29), FULL);
        C.due("unison", x.unison(), FULL);
        C.due("send", x.send(), FULL);
        C.due("cost", x.cost(0, 0), FULL);
        C.due("often", x.often(0), FULL);
        C.due("a bad kind", x.pulse(-1), BAD);
        C.due("a bad sign", x.bring(-1), BAD);
        C.due("a bad k", x.cost(-1, 0), BAD);
        C.due("a bad w", x.often(-1), BAD);
        C.due("nothing is changed", x.digest(), before);
        C.due("what has room is done", x.bring(2), 3);
        C.due("a step", x.pulse(0), FULL);
        C.due("a bad kind", x.pulse(3), BAD);
    }
}
