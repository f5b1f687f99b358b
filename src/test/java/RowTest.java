/** Promises 14 to 25: the row, firms, quotes written and read. */
public final class RowTest {
    private static final Check C = new Check();
    private static final int NONE = TickerHouse.NONE, BAD = TickerHouse.BAD, NO = TickerHouse.NO, FULL = TickerHouse.FULL;
    private static final int D = 27, EIGHTH = 36, MARK = 44;

    public static void main(String[] args) {
        signs();
        cuts();
        sending();
        firms();
        texts();
        shortTexts();
        fullRow();
        reading();
        faults();
        shortsRead();
        taking();
        C.end();
    }

    private static void put(TickerHouse x, int... signs) {
        x.clear();
        for (int v : signs) {
            x.sign(v);
        }
    }

    private static void rowIs(String when, TickerHouse x, int... want) {
        C.due(when + ": how many", x.count(3), want.length);
        for (int i = 0; i < want.length; i++) {
            C.due(when + ": rowAt(" + i + ")", x.rowAt(i), want[i]);
        }
    }

    private static void fault(String when, TickerHouse x, int quotes, int place, int sort) {
        C.due(when + ": quotes", x.read(0), quotes);
        C.due(when + ": place", x.read(1), place);
        C.due(when + ": sort", x.read(2), sort);
    }

    private static void quote(String when, TickerHouse x, int i, int... want) {
        for (int what = 0; what < 3; what++) {
            C.due(when + ": readAt(" + i + ", " + what + ")", x.readAt(i, what), want[what]);
        }
    }

    private static TickerHouse withFirms() {
        TickerHouse x = new TickerHouse();
        x.firm(1, 0, 0, 0);
        x.firm(1, 2, 0, 0);
        x.firm(26, 25, 24, 23);
        return x;
    }

    private static void signs() {
        TickerHouse x = new TickerHouse();
        C.due("sign -1", x.sign(-1), BAD);
        C.due("sign 55", x.sign(55), BAD);
        C.due("none is there", x.rowAt(0), NONE);
        for (int i = 0; i < 40; i++) {
            C.due("sign " + i, x.sign(i + 15), i + 1);
        }
        C.due("one more", x.sign(0), FULL);
        C.due("a bad one", x.sign(55), BAD);
        C.due("first", x.rowAt(0), 15);
        C.due("last", x.rowAt(39), 54);
        C.due("behind it", x.rowAt(40), NONE);
        C.due("ahead of it", x.rowAt(-1), NONE);
        C.due("cleared", x.clear(), 40);
        C.due("cleared again", x.clear(), 0);
        C.due("empty", x.rowAt(0), NONE);
        C.due("the first again", x.sign(3), 1);
    }

    private static void cuts() {
        TickerHouse x = new TickerHouse();
        x.machine(0, 0, 0);
        x.machine(0, 0, 0);
        for (int v = 1; v <= 26; v++) {
            x.bring(v);
        }
        x.alive(1, false);
        x.bring(54);
        C.due("no machine", x.cut(2, 0, 1), BAD);
        C.due("machine -2", x.cut(-2, 0, 1), BAD);
        C.due("from below 0", x.cut(0, -1, 1), BAD);
        C.due("n below 0", x.cut(0, 1, -1), BAD);
        C.due("one too many", x.cut(0, 20, 8), BAD);
        C.due("too far", x.cut(0, Integer.MAX_VALUE, 1), BAD);
        C.due("too many", x.cut(0, 1, Integer.MAX_VALUE), BAD);
        C.due("this one has fewer", x.cut(1, 26, 1), BAD);
        C.due("three", x.cut(0, 24, 3), 3);
        rowIs("a machine's", x, 25, 26, 54);
        C.due("the sender's", x.cut(NONE, 0, 2), 5);
        rowIs("both", x, 25, 26, 54, 1, 2);
        C.due("none", x.cut(0, 27, 0), 5);
        C.due("all of them", x.cut(1, 0, 26), 31);
        C.due("no room for ten", x.cut(1, 0, 10), FULL);
        C.due("bad ahead of full", x.cut(1, 20, 10), BAD);
        C.due("room for nine", x.cut(1, 0, 9), 40);
        C.due("the last", x.rowAt(39), 9);
        C.due("the ribbon stays", x.about(1, 4), 26);
    }

    private static void sending() {
        TickerHouse x = new TickerHouse();
        C.due("an empty row", x.send(), 0);
        put(x, 1, D + 1, 0);
        C.due("1 + 1, 1 + 1 + 1, 26 + 1", x.send(), 2 + 3 + 27);
        C.due("the row stays", x.count(3), 3);
        C.due("again, now on figures at 0", x.send(), 3 + 3 + 27);
        int[] want = {1, D + 1, 0, 1, D + 1, 0};
        for (int i = 0; i < want.length; i++) {
            C.due("printed " + i, x.ribbon(NONE, i), want[i]);
        }
    }

    private static void firms() {
        TickerHouse x = new TickerHouse();
        C.due("no letter", x.firm(0, 0, 0, 0), BAD);
        C.due("none ahead", x.firm(0, 1, 0, 0), BAD);
        C.due("a gap", x.firm(1, 0, 1, 0), BAD);
        C.due("a gap", x.firm(1, 1, 0, 1), BAD);
        C.due("letter 27", x.firm(1, 1, 1, 27), BAD);
        C.due("letter -1", x.firm(1, -1, 0, 0), BAD);
        C.due("none made", x.count(4), 0);
        C.due("a firm", x.firm(1, 1, 1, 0), 0);
        C.due("its beginning is another code", x.firm(1, 1, 0, 0), 1);
        C.due("the same", x.firm(1, 1, 1, 0), NO);
        C.due("four letters", x.firm(26, 26, 26, 26), 2);
        for (int i = 3; i < 12; i++) {
            C.due("firm " + i, x.firm(i, 0, 0, 0), i);
        }
        C.due("one more", x.firm(20, 0, 0, 0), FULL);
        C.due("the same ahead of full", x.firm(1, 1, 0, 0), NO);
        C.due("bad ahead of full", x.firm(0, 0, 0, 0), BAD);
        C.due("no last", x.last(11), NONE);
        C.due("no firm", x.last(12), BAD);
        C.due("no firm", x.last(-1), BAD);
    }

    private static void texts() {
        TickerHouse x = withFirms();
        C.due("no firm", x.write(3, 0, 1), BAD);
        C.due("no firm", x.write(-1, 0, 1), BAD);
        C.due("price", x.write(0, -1, 1), BAD);
        C.due("price", x.write(0, 80000, 1), BAD);
        C.due("shares", x.write(0, 0, 0), BAD);
        C.due("shares", x.write(0, 0, 1000), BAD);
        rowIs("nothing is written", x);
        C.due("no last", x.last(0), NONE);
        C.due("0s ahead", x.write(0, 0, 1), 5);
        rowIs("0s ahead", x, 1, D, D, D, 0);
        C.due("last", x.last(0), 0);
        x.clear();
        C.due("an eighth, two hundred", x.write(1, 7999, 2), 9);
        rowIs("999 7/8", x, 1, 2, D + 9, D + 9, D + 9, EIGHTH + 7, MARK, D + 2, 0);
        x.clear();
        C.due("four digits", x.write(1, 8000, 10), 10);
        rowIs("1000", x, 1, 2, D + 1, D, D, D, MARK, D + 1, D, 0);
        x.clear();
        C.due("9 hundred", x.write(0, 0, 9), 7);
        C.due("99 hundred", x.write(0, 0, 99), 8);
        C.due("100 hundred", x.write(0, 0, 100), 9);
        rowIs("without 0s ahead", x, 1, D, D, D, MARK, D + 9, 0, 1, D, D, D, MARK, D + 9, D + 9, 0,
            1, D, D, D, MARK, D + 1, D, D, 0);
        x.clear();
        C.due("the longest", x.write(2, 79999, 999), 14);
        rowIs("9999 7/8", x, 26, 25, 24, 23, D + 9, D + 9, D + 9, D + 9, EIGHTH + 7, MARK, D + 9, D + 9, D + 9, 0);
        C.due("last", x.last(2), 79999);
    }

    private static void shortTexts() {
        TickerHouse x = withFirms();
        C.due("off at first", x.count(7), 0);
        x.write(0, 800, 1);
        x.clear();
        C.due("off: full", x.write(0, 808, 1), 5);
        C.due("on", x.shorts(true), 1);
        C.due("on again", x.shorts(true), 1);
        C.due("told", x.count(7), 1);
        x.clear();
        C.due("no last: full", x.write(1, 808, 1), 6);
        x.clear();
        C.due("same hundreds: short", x.write(0, 1599, 1), 5);
        rowIs("199 7/8 short", x, 1, D + 9, D + 9, EIGHTH + 7, 0);
        x.clear();
        C.due("other hundreds: full", x.write(0, 1600, 1), 5);
        rowIs("200 full", x, 1, D + 2, D, D, 0);
        x.clear();
        C.due("0s in short", x.write(0, 1608, 1), 4);
        rowIs("201 short", x, 1, D, D + 1, 0);
        x.clear();
        x.write(2, 8000, 1);
        x.clear();
        C.due("above 999, short", x.write(2, 8799, 1), 8);
        rowIs("1099 7/8 short", x, 26, 25, 24, 23, D + 9, D + 9, EIGHTH + 7, 0);
        C.due("off", x.shorts(false), 1);
        x.clear();
        C.due("off: full again", x.write(0, 1608, 1), 5);
    }

    private static void fullRow() {
        TickerHouse x = withFirms();
        for (int i = 0; i < 7; i++) {
            x.write(0, 800, 1);
        }
        C.due("35 signs", x.count(3), 35);
        C.due("six do not fit", x.write(0, 801, 1), FULL);
        C.due("last is as it was", x.last(0), 800);
        C.due("bad ahead of full", x.write(0, 80000, 1), BAD);
        C.due("five fit", x.write(0, 1608, 1), 5);
        C.due("40 signs", x.count(3), 40);
        fault("all of them", x, 8, NONE, NONE);
        quote("the last one", x, 7, 0, 1608, 1);
    }

    private static void reading() {
        TickerHouse x = withFirms();
        C.due("what", x.read(-1), BAD);
        C.due("what", x.read(3), BAD);
        C.due("i", x.readAt(-1, 0), BAD);
        C.due("what", x.readAt(0, -1), BAD);
        C.due("what", x.readAt(0, 3), BAD);
        C.due("bad ahead of none", x.readAt(9, 3), BAD);
        fault("empty", x, 0, NONE, NONE);
        C.due("none", x.readAt(0, 0), NONE);
        put(x, 0, 0, 1, D, D, D, 0, 0, 1, 2, D + 1, D, D, D, EIGHTH + 1, MARK, D + 1, D, 0, 0);
        fault("two, with blanks", x, 2, NONE, NONE);
        quote("the first", x, 0, 0, 0, 1);
        quote("the second", x, 1, 1, 8001, 10);
        C.due("a third", x.readAt(2, 0), NONE);
        put(x, 26, 25, 24, 23, D, D + 1, D + 2, D + 3, MARK, D + 9, D + 9, D + 9, 0);
        fault("four digits with a 0 ahead", x, 1, NONE, NONE);
        quote("it", x, 0, 2, 984, 999);
        C.due("reading tells no last", x.last(2), NONE);
    }

    private static void faults() {
        TickerHouse x = withFirms();
        put(x, D);
        fault("a digit first", x, 0, 0, 1);
        put(x, 0, 54);
        fault("a star", x, 0, 1, 1);
        put(x, 2, D, D, D, 0);
        fault("no code", x, 0, 1, 2);
        put(x, 1, 2, 1, 2, 1, D, D, D, 0);
        fault("five letters", x, 0, 5, 2);
        put(x, 26, 25, 24, 23, 22, D, D, D, 0);
        fault("a letter behind a code of four", x, 0, 5, 2);
        put(x, 26, 25, 24);
        fault("no code at the end", x, 0, 3, 2);
        put(x, 1);
        fault("ends behind a code", x, 0, 1, 4);
        put(x, 1, 0);
        fault("no digit", x, 0, 1, 1);
        put(x, 1, D);
        fault("ends behind a digit", x, 0, 2, 4);
        put(x, 1, D, EIGHTH + 1);
        fault("one digit", x, 0, 2, 1);
        put(x, 1, D, D, D);
        fault("ends behind three", x, 0, 4, 4);
        put(x, 1, D, D, D, D);
        fault("ends behind four", x, 0, 5, 4);
        put(x, 1, D, D, D, D, D, 0);
        fault("five digits", x, 0, 5, 1);
        put(x, 1, D, D, D, 45, 0);
        fault("another mark", x, 0, 4, 1);
        put(x, 1, D, D, D, 1, 0);
        fault("a letter", x, 0, 4, 1);
        put(x, 1, D, D, D, EIGHTH + 1);
        fault("ends behind an eighth", x, 0, 5, 4);
        put(x, 1, D, D, D, EIGHTH + 1, D, 0);
        fault("a digit behind an eighth", x, 0, 5, 1);
        put(x, 1, D, D, D, MARK);
        fault("ends behind the mark", x, 0, 5, 4);
        put(x, 1, D, D, D, MARK, 0);
        fault("no shares", x, 0, 5, 1);
        put(x, 1, D, D, D, MARK, D, 0);
        fault("shares from 0", x, 0, 5, 1);
        put(x, 1, D, D, D, MARK, D + 1, 0);
        fault("1 alone", x, 0, 6, 1);
        put(x, 1, D, D, D, MARK, D + 1);
        fault("1 at the end", x, 0, 6, 4);
        put(x, 1, D, D, D, MARK, D + 2);
        fault("ends behind shares", x, 0, 6, 4);
        put(x, 1, D, D, D, MARK, D + 2, MARK, 0);
        fault("a mark behind shares", x, 0, 6, 1);
        put(x, 1, D, D, D, MARK, D + 2, D, D, D, 0);
        fault("four digits of shares", x, 0, 8, 1);
        put(x, 1, D, D, D, 0, 1, D, D, D, 0, 2, 0);
        fault("behind two quotes", x, 2, 11, 2);
        C.due("the two are there", x.readAt(1, 0), 0);
        C.due("no third", x.readAt(2, 0), NONE);
    }

    private static void shortsRead() {
        TickerHouse x = withFirms();
        put(x, 1, D + 1, D + 2, 0);
        fault("no last", x, 0, 1, 3);
        put(x, 1, D + 1, D + 2);
        fault("no last, at the end", x, 0, 1, 3);
        put(x, 0, 1, 2, D + 1, D + 2, 54);
        fault("no last ahead of a sign that can't be there", x, 0, 3, 3);
        put(x, 1, D + 3, D, D, 0, 1, D + 1, D + 2, EIGHTH + 3, 0, 1, 2, D, D, 0);
        fault("quotes ahead count, of their firm", x, 2, 12, 3);
        quote("short", x, 1, 0, 312 * 8 + 3, 1);
        x.clear();
        x.write(0, 79999, 1);
        put(x, 1, D, D + 1, 0, 1, D + 1, D + 2);
        fault("a last price that was told", x, 1, 7, 4);
        quote("its hundreds", x, 0, 0, 9901 * 8, 1);
    }

    private static void taking() {
        TickerHouse x = withFirms();
        C.due("an empty row", x.take(), 0);
        put(x, 1, D + 3, D, D, 0, 1, D + 1, D + 2, EIGHTH + 3, 0, 26, 25, 24, 23, D, D, D, 0, 0);
        C.due("three", x.take(), 3);
        C.due("last", x.last(0), 312 * 8 + 3);
        C.due("none was told", x.last(1), NONE);
        C.due("last", x.last(2), 0);
        C.due("the row stays", x.count(3), 19);
        put(x, 1, D + 4, D, D, 0, 1);
        C.due("a fault", x.take(), NO);
        C.due("nothing is told", x.last(0), 312 * 8 + 3);
    }
}
