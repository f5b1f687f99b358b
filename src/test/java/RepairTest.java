/** Promises 33 to 35: the repair of a row. */
public final class RepairTest {
    private static final Check C = new Check();
    private static final int NONE = TickerHouse.NONE, BAD = TickerHouse.BAD, NO = TickerHouse.NO, FULL = TickerHouse.FULL;
    private static final int D = 27, EIGHTH = 36, MARK = 44, STAR = 54;

    public static void main(String[] args) {
        nothingToRepair();
        lostSteps();
        lostShifts();
        lostPrints();
        blanks();
        wholeRows();
        likeOnes();
        tooMany();
        longRows();
        fromTheWire();
        C.end();
    }

    private static TickerHouse withFirms() {
        TickerHouse x = new TickerHouse();
        x.firm(2, 0, 0, 0);
        x.firm(2, 3, 4, 5);
        return x;
    }

    private static void put(TickerHouse x, int... signs) {
        x.clear();
        for (int v : signs) {
            x.sign(v);
        }
    }

    private static void repaired(String when, TickerHouse x, int slips, int... want) {
        C.due(when + ": slips", x.repair(), slips);
        for (int i = 0; i < want.length; i++) {
            C.due(when + ": repairAt(" + i + ")", x.repairAt(i), want[i]);
        }
        C.due(when + ": repairAt(" + want.length + ")", x.repairAt(want.length), NONE);
    }

    private static void nothingToRepair() {
        TickerHouse x = new TickerHouse();
        C.due("i below 0", x.repairAt(-1), BAD);
        repaired("an empty row", x, NONE);
        C.due("an empty row", x.mend(), NO);
        put(x, 2, D, D, 0);
        repaired("without firms", x, NONE);
        C.due("without firms", x.mend(), NO);
        C.due("the row stays", x.count(3), 4);
        x.firm(2, 0, 0, 0);
        repaired("a firm came: whole, though without a last price", x, 0, 2, D, D, 0);
        C.due("i below 0", x.repairAt(-1), BAD);
        C.due("mended", x.mend(), 4);
        C.due("no last price by that", x.last(0), NONE);
    }

    private static void lostSteps() {
        TickerHouse x = withFirms();
        put(x, 1, D, D + 1, STAR);
        repaired("a step ahead of the first", x, 1, 2, D + 1, D + 2, 0);
        put(x, 2, D, D + 1, 52);
        repaired("two steps later on", x, 2, 2, D, D + 1, 0);
        C.due("mended", x.mend(), 4);
        C.due("the row is it", x.rowAt(3), 0);
        repaired("whole now", x, 0, 2, D, D + 1, 0);
    }

    private static void lostShifts() {
        TickerHouse x = withFirms();
        put(x, 2, 3, 4, 5, 1, 2, 3, 0);
        repaired("a shift to figures", x, 1, 2, 3, 4, 5, D, D + 1, D + 2, 0);
        put(x, D + 1, 1, 2, 3, 0, D + 1, 1, 2, 0);
        repaired("wrong all along", x, 1, 2, D, D + 1, D + 2, 0, 2, D, D + 1, 0);
        put(x, 2, 1, D, 0);
        repaired("wrong and right again", x, 2, 2, D, D, 0);
    }

    private static void lostPrints() {
        TickerHouse x = withFirms();
        put(x, D, D, D, 0);
        repaired("ahead of the first: its code", x, 1, 2, D, D, D, 0);
        put(x, 2, D + 5, 0);
        repaired("the least digit", x, 1, 2, D, D + 5, 0);
        put(x, 2, 5, D + 9, D + 9, 0);
        repaired("two letters of a code", x, 2, 2, 3, 4, 5, D + 9, D + 9, 0);
        put(x, 2, D, 2, D, D, 0);
        repaired("a digit and a blank", x, 2, 2, D, D, 0, 2, D, D, 0);
        put(x, 2, D, D);
        repaired("nothing is lost behind the last", x, NONE);
    }

    private static void blanks() {
        TickerHouse x = withFirms();
        put(x, 0);
        repaired("a blank alone", x, 3, 2, D, D, 0);
        put(x, 1, 0, D, STAR);
        repaired("a blank may have been a figure", x, 1, 2, D, D + 1, 0);
        put(x, 0, D, D + 1, 26);
        repaired("a blank may have been a letter", x, 2, 2, D + 2, D + 3, 0);
    }

    private static void wholeRows() {
        TickerHouse x = withFirms();
        put(x, 2, D, D, D, D, EIGHTH + 7, MARK, D + 9, D + 9, D + 9, 0);
        C.due("the longest quote", x.repair(), 0);
        put(x, 2, D, D, MARK, D + 1, D, 0);
        C.due("10 hundred", x.repair(), 0);
        put(x, 2, D, D, D, D, D, 0);
        C.holds("five digits", x.repair() > 0);
        put(x, 2, D, D, MARK, D + 2, D, D, D, 0);
        C.holds("four digits of shares", x.repair() > 0);
        put(x, 0, 2, D, D, 0);
        C.holds("a blank ahead is no part of it", x.repair() > 0);
        put(x, 2, D, D, 0, 0);
        C.holds("a blank more", x.repair() > 0);
        put(x, 2, D, D, MARK, D + 1, 0);
        repaired("1 alone", x, 1, 2, D, D, MARK, D + 1, D, 0);
        put(x, 2, D, D, MARK, D, 0);
        repaired("0 first", x, 1, 2, D, D, MARK, D + 1, D, 0);
        put(x, 2, D, D, MARK, 0);
        repaired("no shares", x, 1, 2, D, D, MARK, D + 2, 0);
        put(x, 2, 3, D, D, 0);
        repaired("no code", x, 2, 2, 3, 4, 5, D, D, 0);
    }

    private static void likeOnes() {
        TickerHouse x = withFirms();
        put(x, 2, D + 3, D + 3, EIGHTH + 1, EIGHTH + 2, 0);
        C.holds("two eighths", x.repair() > 0);
        x.firm(1, 0, 0, 0);
        put(x, D, D, 0);
        repaired("the first code", x, 1, 1, D, D, 0);
        put(x, 1, D + 1, 0);
        repaired("0 ahead of 1", x, 1, 1, D, D + 1, 0);
        put(x, 1, 0);
        repaired("two digits, not more", x, 2, 1, D, D, 0);
    }

    private static void tooMany() {
        TickerHouse x = withFirms();
        put(x, 53, 53, 53, 53, 53, 53, 53, 53, 53);
        repaired("not with six", x, NONE);
        C.due("not mended", x.mend(), NO);
        C.due("the row stays", x.count(3), 9);
        put(x, 24, D + 1, D + 2, 22);
        repaired("six steps", x, 6, 2, D + 7, D + 8, 0);
        put(x, 23, D, D + 1, 21);
        repaired("seven steps", x, NONE);
        TickerHouse y = new TickerHouse();
        y.firm(10, 10, 10, 10);
        put(y, 0);
        repaired("six lost prints", y, 6, 10, 10, 10, 10, D, D, 0);
        put(y, 0, 0);
        repaired("twelve would be needed", y, NONE);
    }

    private static void longRows() {
        TickerHouse x = new TickerHouse();
        x.firm(1, 0, 0, 0);
        for (int i = 0; i < 10; i++) {
            put4(x);
        }
        C.due("forty signs", x.count(3), 40);
        C.due("whole", x.repair(), 0);
        C.due("mended", x.mend(), 40);
        x.clear();
        for (int i = 0; i < 9; i++) {
            put4(x);
        }
        x.sign(1);
        x.sign(D);
        x.sign(0);
        C.due("39 signs, one lost", x.repair(), 1);
        C.due("mended: 40", x.mend(), 40);
        C.due("the last", x.rowAt(39), 0);
        x.clear();
        x.sign(D);
        x.sign(D);
        x.sign(D);
        x.sign(0);
        for (int i = 0; i < 9; i++) {
            put4(x);
        }
        C.due("40 signs, one lost", x.repair(), 1);
        C.due("41 signs: the last", x.repairAt(40), 0);
        C.due("no more", x.repairAt(41), NONE);
        C.due("41 have no room", x.mend(), FULL);
        C.due("the row stays", x.rowAt(0), D);
        C.due("it is told all the same", x.repairAt(0), 1);
        x.clear();
        for (int i = 0; i < 6; i++) {
            x.sign(D);
            x.sign(D);
            x.sign(D);
            x.sign(0);
        }
        for (int i = 0; i < 4; i++) {
            put4(x);
        }
        C.due("40 signs, six codes lost", x.repair(), 6);
        C.due("46 signs: the last", x.repairAt(45), 0);
        C.due("the one ahead of it", x.repairAt(44), D);
        C.due("no more", x.repairAt(46), NONE);
        C.due("46 have no room", x.mend(), FULL);
    }

    private static void put4(TickerHouse x) {
        x.sign(1);
        x.sign(D);
        x.sign(D);
        x.sign(0);
    }

    /** A machine that loses pulses: what it printed is mended to what the sender printed. */
    private static void fromTheWire() {
        TickerHouse x = withFirms();
        x.machine(0, 0, 0);
        x.write(1, 8123, 25);
        x.slip(0, 0);
        x.send();
        C.due("it printed all signs wrong", x.wrong(0), x.about(NONE, 4));
        int n = x.about(0, 4);
        x.clear();
        x.cut(0, 0, n);
        C.due("the step that was lost", x.repair(), 1);
        C.due("as long as the sender's", x.mend(), x.about(NONE, 4));
        for (int i = 0; i < x.count(3); i++) {
            C.due("sign " + i, x.rowAt(i), x.ribbon(NONE, i));
        }
    }
}
