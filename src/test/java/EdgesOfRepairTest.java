/** Section 4 of "Terms", sentence by sentence: the repair of a row. */
public final class EdgesOfRepairTest {
    private static final Check C = new Check();
    private static final int NONE = TickerHouse.NONE;
    private static final int D = 27, EIGHTH = 36, MARK = 44, STAR = 54;
    private static final int A = 1;

    public static void main(String[] args) {
        rightAndNoShiftBackAtFirst();
        aStepLostAnywhere();
        aShiftLostAnywhere();
        aPrintLostAnywhere();
        notBehindTheLastOne();
        anySignMayBeMissing();
        aboveTwentySeven();
        onTheOtherWheel();
        blankOnEitherWheel();
        oneQuoteOrMore();
        noBlanksButAtTheirEnds();
        codesOfFirms();
        twelveCodesOfFourLetters();
        dollarsOfAWholeRow();
        sharesOfAWholeRow();
        whetherThereIsALastPriceOrNot();
        sixAtMost();
        sixAtSixPlaces();
        theFewest();
        theFirstAsARow();
        aRowThatEndsIsLess();
        ofTheRowAsItIs();
        C.end();
    }

    private static TickerHouse withA() {
        TickerHouse x = new TickerHouse();
        x.firm(A, 0, 0, 0);
        return x;
    }

    private static void put(TickerHouse x, int... signs) {
        x.clear();
        for (int v : signs) {
            x.sign(v);
        }
    }

    private static void repaired(String when, TickerHouse x, int slips, int... want) {
        C.due(when + ": slips", x.repair(), slips);
        for (int i = 0; i < want.length; i++) {
            C.due(when + ": repairAt(" + i + ")", x.repairAt(i), want[i]);
        }
        C.due(when + ": repairAt(" + want.length + ")", x.repairAt(want.length), NONE);
    }

    // "with a SHIFT BACK s (0 .. 27; 0 at first) and a WHEEL wrong or right (right at first)"
    private static void rightAndNoShiftBackAtFirst() {
        TickerHouse x = withA();
        put(x, A, D + 1, D + 2, 0);
        repaired("a whole row is its own repair", x, 0, A, D + 1, D + 2, 0);
        C.due("mended", x.mend(), 4);
        repaired("and so again", x, 0, A, D + 1, D + 2, 0);
    }

    // "between two SIGNS (also ahead of the first one ..) a STEP may have been lost: s is one more"
    private static void aStepLostAnywhere() {
        // One step back none of these can be there, so that the step can't have been lost later.
        int[] whole = {A, D, D, 0, A, D, D, 0};
        for (int from = 0; from < whole.length; from++) {
            TickerHouse x = withA();
            for (int i = 0; i < whole.length; i++) {
                x.sign(i < from ? whole[i] : oneStepBack(whole[i]));
            }
            repaired("from " + from + " on", x, 1, whole);
        }
    }

    private static int oneStepBack(int sign) {
        if (sign == 0) {
            return STAR;
        }
        return sign == A || sign == D ? 0 : sign - 1;
    }

    // "a SHIFT may have been lost: wrong becomes right, right wrong"
    private static void aShiftLostAnywhere() {
        int[] whole = {2, D + 9, D + 8, D + 7, D + 6, EIGHTH + 2, MARK, D + 4, 0};
        for (int from = 0; from < whole.length - 1; from++) {
            for (int to = from + 1; to <= whole.length; to++) {
                TickerHouse x = new TickerHouse();
                x.firm(2, 0, 0, 0);
                for (int i = 0; i < whole.length; i++) {
                    x.sign(i >= from && i < to ? flipped(whole[i]) : whole[i]);
                }
                // The blank at the end is on both wheels: what is wrong up to it need not become right again.
                repaired("wrong from " + from + " to " + to, x, to >= whole.length - 1 ? 1 : 2, whole);
            }
        }
    }

    private static int flipped(int sign) {
        if (sign == 0) {
            return 0;
        }
        return sign > 26 ? sign - 26 : sign + 26;
    }

    // "and a PRINT may have been lost: a SIGN is missing there"
    private static void aPrintLostAnywhere() {
        // Each sign is the least that can be there, so that the one that is missing comes back the same.
        int[] whole = {A, D, D, 0, A, D, D, 0};
        for (int at = 0; at < whole.length - 1; at++) {
            TickerHouse x = withA();
            for (int i = 0; i < whole.length; i++) {
                if (i != at) {
                    x.sign(whole[i]);
                }
            }
            repaired("without " + at, x, 1, whole);
        }
    }

    // "(also ahead of the first one, not behind the last one)"
    private static void notBehindTheLastOne() {
        TickerHouse x = withA();
        put(x, A, D, D);
        repaired("the blank is not printed", x, NONE);
        put(x, A, D, D, D, D, EIGHTH + 7, MARK, D + 9, D + 9, D + 9);
        repaired("the blank is not printed", x, NONE);
        put(x, A, D, D, 0, A);
        repaired("a quote begun", x, NONE);
        put(x, D, D, 0);
        repaired("ahead of the first one", x, 1, A, D, D, 0);
        put(x, D, 0);
        repaired("two ahead of the first one", x, 2, A, D, D, 0);
        put(x, 0);
        repaired("three ahead of the first one, that is the last one", x, 3, A, D, D, 0);
    }

    // "a SIGN is missing there (any)"
    private static void anySignMayBeMissing() {
        TickerHouse x = new TickerHouse();
        x.firm(26, 26, 0, 0);
        put(x, D, D, 0);
        repaired("letters", x, 2, 26, 26, D, D, 0);
        put(x, 26, 26, 0);
        repaired("digits", x, 2, 26, 26, D, D, 0);
        put(x, 26, 26, D, D, D, D, D + 2, 0);
        repaired("the mark", x, 1, 26, 26, D, D, D, D, MARK, D + 2, 0);
        put(x, 26, 26, D, D, 26, 26, D, D, 0);
        repaired("a blank", x, 1, 26, 26, D, D, 0, 26, 26, D, D, 0);
        put(x, 26, 26, D, D, MARK, 0);
        repaired("shares", x, 1, 26, 26, D, D, MARK, D + 2, 0);
        put(x, 26, 26, D, D, MARK, D, 0);
        repaired("shares that end with 0", x, 1, 26, 26, D, D, MARK, D + 1, D, 0);
    }

    // "should have been at PLACE p + s (less 28 if that is above 27)"
    private static void aboveTwentySeven() {
        TickerHouse x = withA();
        put(x, 0, 0, 0, 53);
        repaired("27 and 1 are 28: the blank; 0 and 1: the first places", x, 1, A, D, D, 0);
        put(x, STAR, 53, 53, 52);
        repaired("27 and 2 are 29: the first places; 26 and 2 the blank", x, 2, A, D, D, 0);
        put(x, STAR, 53, 53, 26);
        repaired("the blank on letters", x, 2, A, D, D, 0);
        put(x, 23, D + 2, D + 3, 22);
        repaired("23 and 6 are 29", x, 6, A, D + 8, D + 9, 0);
        TickerHouse y = new TickerHouse();
        y.firm(26, 0, 0, 0);
        put(y, 25, D, D, STAR);
        repaired("25 and 1 are 26", y, 1, 26, D + 1, D + 1, 0);
        put(y, 26, D, D, STAR);
        repaired("a step lost ahead of the last one, as no digit is less than 0", y, 1, 26, D, D, 0);
    }

    // "on the other WHEEL if wrong"
    private static void onTheOtherWheel() {
        TickerHouse x = new TickerHouse();
        x.firm(10, 0, 0, 0);
        put(x, D + 9, 1, 10, 0);
        repaired("letters for digits and digits for letters", x, 1, 10, D, D + 9, 0);
        put(x, D + 9, 1, 10, 11, 18, 3, 0);
        repaired("eighths and the mark are on figures, too", x, 1, 10, D, D + 9, EIGHTH + 1, MARK, D + 2, 0);
        put(x, D + 9, 1, 10, STAR, 0);
        repaired("the star is mark 53 then, which is in no quote", x, NONE);
    }

    // "(BLANK as printed may have been on either WHEEL.)"
    private static void blankOnEitherWheel() {
        TickerHouse x = withA();
        put(x, 0, D, D, STAR);
        repaired("of letters: 0 and 1 is A", x, 1, A, D + 1, D + 1, 0);
        put(x, A, 0, D, STAR);
        repaired("of figures: 0 and 1 is the digit 0", x, 1, A, D, D + 1, 0);
        put(x, 0, 1, 2, STAR);
        repaired("wrong, of figures: A", x, 2, A, D + 1, D + 2, 0);
        put(x, D, 0, 2, STAR);
        repaired("wrong, of letters: the digit 0", x, 2, A, D, D + 2, 0);
        put(x, A, D, D, 0);
        repaired("at its place it is a blank on both", x, 0, A, D, D, 0);
        put(x, D, 1, 1, 0);
        repaired("at its place it is a blank on both, wrong", x, 1, A, D, D, 0);
    }

    // "WHOLE is a row of one QUOTE or more from its first SIGN to its last one"
    private static void oneQuoteOrMore() {
        TickerHouse x = withA();
        put(x);
        repaired("an empty row is none", x, NONE);
        put(x, A, D, D, 0);
        repaired("one", x, 0, A, D, D, 0);
        put(x, A, D, D, 0, A, D + 5, D, D, D, EIGHTH + 7, MARK, D + 9, 0);
        repaired("two", x, 0, A, D, D, 0, A, D + 5, D, D, D, EIGHTH + 7, MARK, D + 9, 0);
        x.clear();
        for (int i = 0; i < 10; i++) {
            x.sign(A);
            x.sign(D);
            x.sign(D);
            x.sign(0);
        }
        C.due("ten in forty signs", x.repair(), 0);
        C.due("the last sign", x.repairAt(39), 0);
        C.due("none behind it", x.repairAt(40), NONE);
    }

    // "no BLANKS but those at their ends"
    private static void noBlanksButAtTheirEnds() {
        TickerHouse x = withA();
        put(x, 0, A, D, D, 0);
        repaired("a blank ahead: a quote of which three prints are lost", x, 3, A, D, D, 0, A, D, D, 0);
        put(x, A, D, D, 0, 0);
        repaired("two blanks behind", x, 3, A, D, D, 0, A, D, D, 0);
        put(x, 0, 0);
        repaired("blanks alone", x, 6, A, D, D, 0, A, D, D, 0);
        put(x, 0, 0, 0);
        repaired("three blanks", x, NONE);
    }

    // "letters, as many as there are, are a CODE of a firm"
    private static void codesOfFirms() {
        TickerHouse x = new TickerHouse();
        put(x, A, D, D, 0);
        repaired("no firm", x, NONE);
        x.firm(A, 2, 3, 0);
        repaired("only the beginning of a code", x, 2, A, 2, 3, D, D, 0);
        put(x, A, 2, 3, D, D, 0);
        repaired("a code", x, 0, A, 2, 3, D, D, 0);
        x.firm(A, 2, 3, 4);
        put(x, A, 2, 3, 4, D, D, 0);
        repaired("a code that begins with another one", x, 0, A, 2, 3, 4, D, D, 0);
        put(x, A, 2, 4, D, D, 0);
        repaired("its third letter is missing", x, 1, A, 2, 3, 4, D, D, 0);
        put(x, A, 2, D, D, 0);
        repaired("the shorter one is nearer", x, 1, A, 2, 3, D, D, 0);
        x.firm(A, 0, 0, 0);
        put(x, A, D, D, 0);
        repaired("a firm came whose code it is", x, 0, A, D, D, 0);
    }

    // "FIRMS 0 .. 11, .. have a CODE of 1 .. 4 letters": as many as can be, none of which begins as another one.
    private static void twelveCodesOfFourLetters() {
        TickerHouse x = new TickerHouse();
        for (int f = 0; f < 12; f++) {
            C.due("firm " + f, x.firm(f + 1, 26, 25, f + 13), f);
        }
        for (int f = 0; f < 12; f++) {
            put(x, f + 1, 26, 25, f + 13, D + 9, D + 9, 0);
            repaired("the code of firm " + f, x, 0, f + 1, 26, 25, f + 13, D + 9, D + 9, 0);
            put(x, 26, f + 13, D + 9, 0);
            repaired("two letters and a digit are missing", x, 3, f + 1, 26, 25, f + 13, D, D + 9, 0);
        }
        put(x, 26, 25, D, D, 0);
        repaired("the first of all", x, 2, 1, 26, 25, 13, D, D, 0);
        put(x, 13, 26, 25, 25, D, D, 0);
        repaired("no thirteenth", x, NONE);
    }

    // "two digits: SHORT; three or four: FULL; perhaps an eighth"
    private static void dollarsOfAWholeRow() {
        TickerHouse x = withA();
        put(x, A, D + 9, 0);
        repaired("one is too few", x, 1, A, D, D + 9, 0);
        put(x, A, D + 9, D + 9, 0);
        repaired("two", x, 0, A, D + 9, D + 9, 0);
        put(x, A, D, D + 9, D + 9, 0);
        repaired("three, with a 0 ahead", x, 0, A, D, D + 9, D + 9, 0);
        put(x, A, D, D + 9, D + 9, D + 9, 0);
        repaired("four, with a 0 ahead", x, 0, A, D, D + 9, D + 9, D + 9, 0);
        put(x, A, D + 9, D + 9, D + 9, D + 9, D + 9, 0);
        repaired("five: the mark ahead of the last one", x, 1, A, D + 9, D + 9, D + 9, D + 9, MARK, D + 9, 0);
        put(x, A, D + 9, D + 9, EIGHTH + 1, EIGHTH + 7, 0);
        repaired("two eighths: a quote begins between them", x, 4, A, D + 9, D + 9, EIGHTH + 1, 0, A, D, D, EIGHTH + 7, 0);
        put(x, A, D + 9, D + 9, EIGHTH + 7, 0);
        repaired("one eighth", x, 0, A, D + 9, D + 9, EIGHTH + 7, 0);
        put(x, A, EIGHTH + 7, 0);
        repaired("an eighth alone", x, 2, A, D, D, EIGHTH + 7, 0);
    }

    // "perhaps MARK 44 and one to three digits, the first not 0, not 1 alone; BLANK"
    private static void sharesOfAWholeRow() {
        TickerHouse x = withA();
        put(x, A, D, D, MARK, D + 2, 0);
        repaired("2", x, 0, A, D, D, MARK, D + 2, 0);
        put(x, A, D, D, MARK, D + 1, 0);
        repaired("1 alone", x, 1, A, D, D, MARK, D + 1, D, 0);
        put(x, A, D, D, MARK, D + 1, D, 0);
        repaired("10", x, 0, A, D, D, MARK, D + 1, D, 0);
        put(x, A, D, D, MARK, D + 1, D, D, 0);
        repaired("100", x, 0, A, D, D, MARK, D + 1, D, D, 0);
        put(x, A, D, D, MARK, D + 9, D + 9, D + 9, 0);
        repaired("999", x, 0, A, D, D, MARK, D + 9, D + 9, D + 9, 0);
        put(x, A, D, D, MARK, D, D + 1, 0);
        repaired("0 first", x, 1, A, D, D, MARK, D + 1, D, D + 1, 0);
        put(x, A, D, D, MARK, D + 2, D, D, D, 0);
        repaired("four: a quote begins behind the first, second or third", x, 2,
            A, D, D, MARK, D + 2, 0, A, D, D, D, 0);
        put(x, A, D, D, 45, D + 2, 0);
        repaired("mark 45 is none", x, NONE);
        put(x, A, D, D, 43, D + 2, 0);
        repaired("43 is an eighth: the mark is missing behind it", x, 1, A, D, D, 43, MARK, D + 2, 0);
    }

    // "(SHORT whether there is a LAST price or not)"
    private static void whetherThereIsALastPriceOrNot() {
        TickerHouse x = withA();
        put(x, A, D + 1, D + 2, 0);
        C.due("it can't be read", x.read(2), 3);
        repaired("whole all the same", x, 0, A, D + 1, D + 2, 0);
        x.clear();
        x.write(0, 800, 1);
        put(x, A, D + 1, D + 2, 0);
        C.due("it can be read", x.read(2), NONE);
        repaired("whole", x, 0, A, D + 1, D + 2, 0);
    }

    // "with the fewest SLIPS (6 at most)"
    private static void sixAtMost() {
        TickerHouse x = withA();
        put(x, 23, D, D, 22);
        repaired("six steps at one place", x, 6, A, D + 6, D + 6, 0);
        put(x, 22, D, D, 21);
        repaired("seven", x, NONE);
        put(x, A, D, D, 21);
        repaired("seven ahead of the last", x, NONE);
        // Five digits are too many for the first one to be a digit: each of these needs two shifts.
        put(x, D, D, D, D, D, 0, D, D, D, D, D, 0, D, D, D, D, D, 0);
        repaired("six shifts", x, 6, A, D, D, D, D, 0, A, D, D, D, D, 0, A, D, D, D, D, 0);
        put(x, D, D, D, D, D, 0, D, D, D, D, D, 0, D, D, D, D, D, 0, A, D, 0);
        repaired("six shifts and a print", x, NONE);
        put(x, 0, 0);
        repaired("six prints", x, 6, A, D, D, 0, A, D, D, 0);
        put(x, 0, 0, A, D, 0);
        repaired("seven prints", x, NONE);
        TickerHouse y = new TickerHouse();
        y.firm(A, A, A, A);
        put(y, 0);
        repaired("six prints at one place", y, 6, A, A, A, A, D, D, 0);
        put(y, STAR);
        repaired("and a step", y, NONE);
    }

    // "Each is a SLIP.": of all three kinds, and of one kind at many places.
    private static void sixAtSixPlaces() {
        TickerHouse x = withA();
        put(x, 0, 53, 52, 50, 24, 49, 49, 48);
        repaired("a step ahead of each of six", x, 6, A, D, D, 0, A, D, D, 0);
        // The code is lost; a step is, too, so that the blank was a 0 and the star a blank.
        put(x, D, D + 1, 0, STAR);
        repaired("a print, a step, each once", x, 2, A, D, D + 1, D, 0);
        // Two steps ahead of the first one; wrong from the digit on, ahead of which another one is lost.
        put(x, STAR, 3, 26);
        repaired("two steps, a shift, a print", x, 4, A, D, D + 4, 0);
    }

    // "that WHOLE row with the fewest SLIPS": ahead of what is first as a row.
    private static void theFewest() {
        TickerHouse x = withA();
        x.firm(2, 0, 0, 0);
        put(x, 2, D + 9, D + 9, 0);
        repaired("none, though A would be ahead", x, 0, 2, D + 9, D + 9, 0);
        put(x, 2, D + 9, 0);
        repaired("one", x, 1, 2, D, D + 9, 0);
    }

    // "of like ones the first as a row of SIGNS"
    private static void theFirstAsARow() {
        TickerHouse x = withA();
        x.firm(2, 0, 0, 0);
        x.firm(A, A, 0, 0);
        put(x, D, D, 0);
        repaired("the first code", x, 1, A, D, D, 0);
        put(x, A, D, D, D, D, 2, D, D, 0);
        repaired("a blank is ahead of all others", x, 1, A, D, D, D, D, 0, 2, D, D, 0);
        put(x, D + 1, D + 1, 0);
        repaired("AA would be two", x, 1, A, D + 1, D + 1, 0);
        put(x, A, D + 5, 0);
        repaired("0 ahead of it, not 0 behind it", x, 1, A, D, D + 5, 0);
        put(x, A, A, D, 0);
        repaired("a letter is ahead of a digit: AA 0 0, not A 0 0", x, 1, A, A, D, D, 0);
        put(x, A, D + 3, D + 3, D + 3, D + 3, D + 3, 0);
        // The mark behind two, three or four digits; behind two the row has the mark where the others have a 3.
        repaired("a digit is ahead of the mark", x, 1, A, D + 3, D + 3, D + 3, D + 3, MARK, D + 3, 0);
    }

    // "(a row that ends is less)"
    private static void aRowThatEndsIsLess() {
        TickerHouse x = withA();
        // With four shifts: A0000 A00. With four prints: A0000 A00 A00, which begins with the same signs.
        put(x, D, D, D, D, A, 0, A, D, D, 0);
        repaired("the one that ends", x, 4, A, D, D, D, D, 0, A, D, D, 0);
        C.due("as many signs as the row has", x.mend(), 10);
    }

    // "THE REPAIR of THE ROW": of the row and the codes as they are when it is asked for.
    private static void ofTheRowAsItIs() {
        TickerHouse x = withA();
        put(x, D, D, 0);
        repaired("a row", x, 1, A, D, D, 0);
        x.clear();
        repaired("cleared", x, NONE);
        C.due("cleared: nothing to mend", x.mend(), TickerHouse.NO);
        put(x, D, D, 0);
        repaired("the same row again", x, 1, A, D, D, 0);
        x.sign(0);
        repaired("a sign more", x, 4, A, D, D, 0, A, D, D, 0);
        C.due("mended", x.mend(), 8);
        repaired("mended", x, 0, A, D, D, 0, A, D, D, 0);
        x.clear();
        C.due("written", x.write(0, 0, 1), 5);
        repaired("written", x, 0, A, D, D, D, 0);
        x.bring(D);
        x.bring(0);
        x.clear();
        C.due("cut", x.cut(NONE, 0, 2), 2);
        repaired("cut", x, 2, A, D, D, 0);
    }
}
