import java.util.Arrays;

/**
 * Prices on a ribbon: a wire with machines that print quotes, the rows of signs that are
 * brought to them, a queue of quotes, and what can be made of slipped ribbons.
 */
public final class TickerHouse {
    public static final int NONE = -1, BAD = -2, NO = -3, FULL = -4, SPENT = -5;

    // Signs.
    private static final int BLANK = 0, LAST_LETTER = 26;
    private static final int DIGIT_0 = 27, DIGIT_1 = 28, DIGIT_9 = 36;
    private static final int EIGHTH_1 = 37, EIGHTH_7 = 43;
    private static final int SHARES_MARK = 44, LAST_FIGURE = 53, STAR = 54;
    private static final int SIGNS = 55;

    // Wheels and pulses.
    private static final int LETTERS = 0, FIGURES = 1, PLACES = 28, STAR_PLACE = 27;
    private static final int STEP = 0, PRINT = 1, SHIFT = 2;
    private static final int RUN_TO_STOP = 56, UNISON_STEPS = 64, UNISON_PULSES = 65;

    // What there is room for.
    private static final int RIBBON_ROOM = 300, ROW_ROOM = 40, MACHINE_ROOM = 8, SLIP_ROOM = 40;
    private static final int FIRM_ROOM = 12, CODE_ROOM = 4, QUEUE_ROOM = 12;
    private static final int PULSE_ROOM = 100001, LAST_PULSE = 100000;
    private static final int TEXT_ROOM = 14;

    // What the numbers of a call may be at most.
    private static final int MAX_LENGTH = 1000, MAX_DULL = 20, MAX_NEED = 1000;
    private static final int MAX_POWER = 2000, MAX_LOSS = 200, MAX_PACE = 50;
    private static final int MAX_PRICE = 79999, MAX_HUNDREDS = 999;
    private static final int MAX_MINUTE = 1000, MAX_DUE = 2000, MAX_TAPE_MINUTE = 3000;
    private static final int MAX_EVERY = 20, MAX_WEIGHT = 1000;
    private static final int BAD_OVER = -100000;

    // Faults of a row that is read.
    private static final int NOT_HERE = 1, NO_CODE = 2, NO_LAST = 3, TOO_EARLY = 4;

    // Repairs.
    private static final int MOST_LOST = 6, REPAIR_ROOM = ROW_ROOM + MOST_LOST;

    private final Line wire = new Line();
    private final Line trial = new Line();
    private final Row theRow = new Row(ROW_ROOM);
    private final Row text = new Row(TEXT_ROOM);
    private final Firms firms = new Firms();
    private final Reading reading = new Reading();
    private final Queue queue = new Queue();
    private final Plan plan = new Plan();
    private final Tape tapeRun = new Tape();
    private final Repair repaired = new Repair();
    private boolean shortsOn = false;

    public TickerHouse() {
    }

    // ---- the line

    public int machine(int length, int dull, int need) {
        if (outside(length, 0, MAX_LENGTH) || outside(dull, 0, MAX_DULL) || outside(need, 0, MAX_NEED)) {
            return BAD;
        }
        return wire.size >= MACHINE_ROOM ? FULL : wire.join(length, dull, need);
    }

    public int alive(int machine, boolean is) {
        if (!wire.has(machine)) {
            return BAD;
        }
        Machine m = wire.machines[machine];
        if (m.living == is) {
            return NO;
        }
        m.living = is;
        return 1;
    }

    public int line(int power, int loss, int pace) {
        if (outside(power, 0, MAX_POWER) || outside(loss, 0, MAX_LOSS) || outside(pace, 1, MAX_PACE)) {
            return BAD;
        }
        wire.power = power;
        wire.loss = loss;
        wire.pace = pace;
        return 1;
    }

    public int slip(int machine, int pulse) {
        if (!wire.has(machine) || outside(pulse, 0, LAST_PULSE)) {
            return BAD;
        }
        return wire.slipsTold >= SLIP_ROOM ? FULL : wire.tellSlip(machine, pulse);
    }

    public int over(int machine) {
        return wire.has(machine) ? wire.strengthOver(wire.machines[machine]) : BAD_OVER;
    }

    public int pulse(int kind) {
        if (outside(kind, STEP, SHIFT)) {
            return BAD;
        }
        if (wire.pulses >= PULSE_ROOM) {
            return FULL;
        }
        wire.give(kind, 1);
        return wire.pulses - 1;
    }

    public int bring(int sign) {
        if (outside(sign, BLANK, STAR)) {
            return BAD;
        }
        trial.standAsSenderOf(wire);
        trial.carry(sign);
        if (trial.pulses > PULSE_ROOM) {
            return FULL;
        }
        int before = wire.pulses;
        wire.carry(sign);
        return wire.pulses - before;
    }

    public int unison() {
        if (wire.pulses + UNISON_PULSES > PULSE_ROOM) {
            return FULL;
        }
        wire.bringTogether();
        return wire.howManyStandAsSender();
    }

    public int about(int machine, int what) {
        if (!wire.hasOrSender(machine) || outside(what, 0, 6)) {
            return BAD;
        }
        return wire.machineOrSender(machine).tell(what);
    }

    public int ribbon(int machine, int i) {
        if (!wire.hasOrSender(machine) || i < 0) {
            return BAD;
        }
        return wire.machineOrSender(machine).printedAt(i);
    }

    public int wrong(int machine) {
        return wire.has(machine) ? wire.machines[machine].wrongAgainst(wire.sender) : BAD;
    }

    public int tear() {
        int had = wire.sender.printed;
        wire.tearAll();
        return had;
    }

    // ---- the row, quotes

    public int sign(int v) {
        if (outside(v, BLANK, STAR)) {
            return BAD;
        }
        if (!theRow.hasRoomFor(1)) {
            return FULL;
        }
        theRow.put(v);
        return theRow.size;
    }

    public int cut(int machine, int from, int n) {
        if (!wire.hasOrSender(machine) || from < 0 || n < 0) {
            return BAD;
        }
        Machine m = wire.machineOrSender(machine);
        if (from > m.printed || n > m.printed - from) {
            return BAD;
        }
        if (!theRow.hasRoomFor(n)) {
            return FULL;
        }
        for (int i = 0; i < n; i++) {
            theRow.put(m.printedAt(from + i));
        }
        return theRow.size;
    }

    public int clear() {
        int had = theRow.size;
        theRow.makeEmpty();
        return had;
    }

    public int rowAt(int i) {
        return theRow.at(i);
    }

    public int send() {
        trial.standAsSenderOf(wire);
        trial.carryRow(theRow, 0);
        if (trial.pulses > PULSE_ROOM) {
            return FULL;
        }
        int before = wire.pulses;
        wire.carryRow(theRow, 0);
        return wire.pulses - before;
    }

    public int firm(int a, int b, int c, int d) {
        if (!isCode(a, b, c, d)) {
            return BAD;
        }
        if (firms.numberOf(a, b, c, d) != NONE) {
            return NO;
        }
        return firms.size >= FIRM_ROOM ? FULL : firms.found(a, b, c, d);
    }

    public int shorts(boolean on) {
        shortsOn = on;
        return 1;
    }

    public int last(int firm) {
        return firms.has(firm) ? firms.lastPrice[firm] : BAD;
    }

    public int write(int firm, int price, int hundreds) {
        if (!isQuote(firm, price, hundreds)) {
            return BAD;
        }
        boolean brief = shortsOn && firms.lastHasHundredsOf(firm, price);
        writeText(firm, price, hundreds, brief);
        if (!theRow.hasRoomFor(text.size)) {
            return FULL;
        }
        for (int i = 0; i < text.size; i++) {
            theRow.put(text.at(i));
        }
        firms.lastPrice[firm] = price;
        return text.size;
    }

    public int read(int what) {
        if (outside(what, 0, 2)) {
            return BAD;
        }
        reading.readRow(theRow, firms);
        if (what == 0) {
            return reading.size;
        }
        return what == 1 ? reading.faultPlace : reading.faultSort;
    }

    public int readAt(int i, int what) {
        if (i < 0 || outside(what, 0, 2)) {
            return BAD;
        }
        reading.readRow(theRow, firms);
        if (i >= reading.size) {
            return NONE;
        }
        if (what == 0) {
            return reading.firm[i];
        }
        return what == 1 ? reading.price[i] : reading.hundreds[i];
    }

    public int take() {
        reading.readRow(theRow, firms);
        if (reading.faultSort != NONE) {
            return NO;
        }
        System.arraycopy(reading.lasts, 0, firms.lastPrice, 0, FIRM_ROOM);
        return reading.size;
    }

    // ---- the queue

    public int add(int minute, int due, int firm, int price, int hundreds) {
        if (outside(minute, 0, MAX_MINUTE) || outside(due, minute, MAX_DUE) || !isQuote(firm, price, hundreds)) {
            return BAD;
        }
        if (queue.size >= QUEUE_ROOM) {
            return FULL;
        }
        writeText(firm, price, hundreds, false);
        return queue.append(minute, due, firm, price, hundreds, trial.pulsesFromRestTo(text));
    }

    public int drop() {
        int had = queue.size;
        queue.makeEmpty();
        return had;
    }

    public int minutes(int quote) {
        return outside(quote, 0, queue.size - 1) ? BAD : queue.duration(quote, wire.pace);
    }

    public int most(int from, int what) {
        if (outside(from, 0, MAX_MINUTE) || outside(what, 0, 1)) {
            return BAD;
        }
        plan.make(queue, from, wire.pace);
        return what == 0 ? plan.best : plan.done;
    }

    public int orderAt(int from, int i) {
        if (outside(from, 0, MAX_MINUTE) || i < 0) {
            return BAD;
        }
        plan.make(queue, from, wire.pace);
        return i < plan.orderSize ? plan.order[i] : NONE;
    }

    public int tape(int minute, int what) {
        if (outside(minute, 0, MAX_TAPE_MINUTE) || outside(what, 0, 2)) {
            return BAD;
        }
        tapeRun.run(queue, wire.pace);
        if (what == 1) {
            return tapeRun.waitingAt(queue, minute);
        }
        int told = tapeRun.beingToldAt(queue, minute);
        if (what == 0) {
            return told;
        }
        return told == NONE ? 0 : tapeRun.begun[told] - queue.minute[told];
    }

    public int price(int firm, int minute, int what) {
        if (!firms.has(firm) || outside(minute, 0, MAX_TAPE_MINUTE) || outside(what, 0, 1)) {
            return BAD;
        }
        tapeRun.run(queue, wire.pace);
        return what == 0 ? tapeRun.priceTold(queue, firm, minute) : tapeRun.priceTrue(queue, firm, minute);
    }

    // ---- repairs, how often

    public int repair() {
        repaired.seek(theRow, firms);
        return repaired.slips;
    }

    public int repairAt(int i) {
        if (i < 0) {
            return BAD;
        }
        repaired.seek(theRow, firms);
        return repaired.found.at(i);
    }

    public int mend() {
        repaired.seek(theRow, firms);
        if (repaired.slips == NONE) {
            return NO;
        }
        if (repaired.found.size > ROW_ROOM) {
            return FULL;
        }
        theRow.makeEmpty();
        for (int i = 0; i < repaired.found.size; i++) {
            theRow.put(repaired.found.at(i));
        }
        return theRow.size;
    }

    public int cost(int k, int w) {
        if (outside(k, 0, MAX_EVERY) || outside(w, 0, MAX_WEIGHT)) {
            return BAD;
        }
        return costOf(k, w);
    }

    public int often(int w) {
        if (outside(w, 0, MAX_WEIGHT)) {
            return BAD;
        }
        int best = 0;
        int bestCost = 0;
        for (int k = 0; k <= MAX_EVERY; k++) {
            int c = costOf(k, w);
            if (c == FULL) {
                return FULL;
            }
            if (k == 0 || c < bestCost) {
                best = k;
                bestCost = c;
            }
        }
        return best;
    }

    public int count(int what) {
        switch (what) {
            case 0: return wire.size;
            case 1: return wire.pulses;
            case 2: return wire.slipsTold;
            case 3: return theRow.size;
            case 4: return firms.size;
            case 5: return queue.size;
            case 6: return wire.pace;
            case 7: return shortsOn ? 1 : 0;
            default: return BAD;
        }
    }

    public long digest() {
        long h = 263;
        for (int what = 0; what <= 7; what++) {
            h = 31 * h + count(what);
        }
        h = wire.sender.mixInto(h);
        for (int m = 0; m < wire.size; m++) {
            h = wire.machines[m].mixInto(h);
        }
        h = theRow.mixInto(h);
        h = firms.mixInto(h);
        return queue.mixInto(h);
    }

    // ---- helpers of the calls

    private static boolean outside(int v, int least, int most) {
        return v < least || v > most;
    }

    private boolean isQuote(int firm, int price, int hundreds) {
        return firms.has(firm) && !outside(price, 0, MAX_PRICE) && !outside(hundreds, 1, MAX_HUNDREDS);
    }

    private static boolean isCode(int a, int b, int c, int d) {
        if (!isLetter(a) || outside(b, 0, LAST_LETTER) || outside(c, 0, LAST_LETTER) || outside(d, 0, LAST_LETTER)) {
            return false;
        }
        return (b != 0 || c == 0) && (c != 0 || d == 0);
    }

    private void writeText(int firm, int price, int hundreds, boolean brief) {
        text.makeEmpty();
        firms.putCode(firm, text);
        int dollars = price / 8;
        if (brief) {
            text.putNumber(dollars % 100, 2);
        } else {
            text.putNumber(dollars, dollars > 999 ? 4 : 3);
        }
        if (price % 8 != 0) {
            text.put(EIGHTH_1 - 1 + price % 8);
        }
        if (hundreds != 1) {
            text.put(SHARES_MARK);
            text.putNumber(hundreds, digitsOf(hundreds));
        }
        text.put(BLANK);
    }

    private static int digitsOf(int hundreds) {
        if (hundreds > 99) {
            return 3;
        }
        return hundreds > 9 ? 2 : 1;
    }

    private int costOf(int k, int w) {
        trial.standAs(wire);
        trial.carryRow(theRow, k);
        if (trial.pulses > PULSE_ROOM) {
            return FULL;
        }
        return trial.pulses - wire.pulses + w * trial.wrongOnLiving();
    }

    // ---- signs and where they are on the wheels

    private static boolean isLetter(int sign) {
        return sign >= 1 && sign <= LAST_LETTER;
    }

    private static boolean isDigit(int sign) {
        return sign >= DIGIT_0 && sign <= DIGIT_9;
    }

    private static boolean isEighth(int sign) {
        return sign >= EIGHTH_1 && sign <= EIGHTH_7;
    }

    private static int wheelOf(int sign) {
        return sign >= DIGIT_0 && sign <= LAST_FIGURE ? FIGURES : LETTERS;
    }

    private static int placeOf(int sign) {
        if (sign == STAR) {
            return STAR_PLACE;
        }
        return wheelOf(sign) == FIGURES ? sign - LAST_LETTER : sign;
    }

    private static int signAt(int wheel, int place) {
        if (place == 0) {
            return BLANK;
        }
        if (wheel == FIGURES) {
            return LAST_LETTER + place;
        }
        return place == STAR_PLACE ? STAR : place;
    }

    /** A machine on the wire, or the sender. */
    private static final class Machine {
        int length, dull, need;
        boolean living = true;
        int place, wheel, steps;
        boolean stopped;
        int missed;
        final int[] signs = new int[RIBBON_ROOM];
        int printed;

        void standAs(Machine other) {
            length = other.length;
            dull = other.dull;
            need = other.need;
            living = other.living;
            place = other.place;
            wheel = other.wheel;
            steps = other.steps;
            stopped = other.stopped;
            missed = 0;
            printed = 0;
        }

        void rest() {
            place = 0;
            wheel = LETTERS;
            steps = 0;
            stopped = false;
            missed = 0;
            printed = 0;
        }

        /** Only steps come several at a time: nothing else is ever sent twice on end by a call. */
        void receive(int kind, int times) {
            if (times <= 0) {
                return;
            }
            if (kind == PRINT) {
                keepOnRibbon(signAt(wheel, place));
                steps = 0;
                stopped = false;
            } else if (stopped) {
                return;
            } else if (kind == SHIFT) {
                wheel = wheel == LETTERS ? FIGURES : LETTERS;
            } else {
                advance(times);
            }
        }

        private void keepOnRibbon(int sign) {
            if (printed < RIBBON_ROOM) {
                signs[printed] = sign;
                printed++;
            }
        }

        private void advance(int times) {
            if (steps + times >= RUN_TO_STOP) {
                steps = RUN_TO_STOP;
                stopped = true;
                place = 0;
                wheel = LETTERS;
            } else {
                steps += times;
                place = (place + times) % PLACES;
            }
        }

        int printedAt(int i) {
            return i >= 0 && i < printed ? signs[i] : NONE;
        }

        int wrongAgainst(Machine other) {
            int both = Math.min(printed, other.printed);
            int differ = Math.max(printed, other.printed) - both;
            for (int i = 0; i < both; i++) {
                if (signs[i] != other.signs[i]) {
                    differ++;
                }
            }
            return differ;
        }

        int tell(int what) {
            switch (what) {
                case 0: return place;
                case 1: return wheel;
                case 2: return steps;
                case 3: return stopped ? 1 : 0;
                case 4: return printed;
                case 5: return missed;
                case 6: return living ? 1 : 0;
                default: return BAD;
            }
        }

        long mixInto(long h) {
            long mixed = h;
            for (int what = 0; what <= 6; what++) {
                mixed = 31 * mixed + tell(what);
            }
            for (int i = 0; i < printed; i++) {
                mixed = 31 * mixed + signs[i];
            }
            return mixed;
        }
    }

    /** The wire with its sender, its machines and the slips that are told for them. */
    private static final class Line {
        int power = 1000, loss = 50, pace = 5;
        final Machine sender = new Machine();
        final Machine[] machines = new Machine[MACHINE_ROOM];
        int size;
        int pulses;
        // A slip that is told again counts among those told but loses no second pulse.
        int slipsTold, slipsHeld;
        final int[] slipMachine = new int[SLIP_ROOM];
        final int[] slipPulse = new int[SLIP_ROOM];
        final int[] lost = new int[MACHINE_ROOM];

        Line() {
            for (int m = 0; m < MACHINE_ROOM; m++) {
                machines[m] = new Machine();
            }
        }

        boolean has(int machine) {
            return machine >= 0 && machine < size;
        }

        boolean hasOrSender(int machine) {
            return machine == NONE || has(machine);
        }

        Machine machineOrSender(int machine) {
            return has(machine) ? machines[machine] : sender;
        }

        int join(int length, int dull, int need) {
            Machine m = machines[size];
            m.length = length;
            m.dull = dull;
            m.need = need;
            size++;
            return size - 1;
        }

        int tellSlip(int machine, int pulse) {
            if (!holdsSlip(machine, pulse)) {
                slipMachine[slipsHeld] = machine;
                slipPulse[slipsHeld] = pulse;
                slipsHeld++;
            }
            slipsTold++;
            return slipsTold;
        }

        private boolean holdsSlip(int machine, int pulse) {
            for (int i = 0; i < slipsHeld; i++) {
                if (slipMachine[i] == machine && slipPulse[i] == pulse) {
                    return true;
                }
            }
            return false;
        }

        int strengthOver(Machine m) {
            return power - m.length * loss / 100 - pace * m.dull - m.need;
        }

        /** Pulses of one kind on end: as they are alike, only how many a machine gets matters. */
        void give(int kind, int times) {
            if (times < 1) {
                return;
            }
            countLost(times);
            sender.receive(kind, times);
            for (int i = 0; i < size; i++) {
                Machine m = machines[i];
                int got = m.living && strengthOver(m) >= 0 ? times - lost[i] : 0;
                m.receive(kind, got);
                m.missed += times - got;
            }
            pulses += times;
        }

        private void countLost(int times) {
            Arrays.fill(lost, 0);
            for (int i = 0; i < slipsHeld; i++) {
                if (slipPulse[i] >= pulses && slipPulse[i] < pulses + times) {
                    lost[slipMachine[i]]++;
                }
            }
        }

        /** A sender that is stopped, or comes to be, prints a blank and begins anew, once at most. */
        void carry(int sign) {
            for (int turn = 0; turn < 2; turn++) {
                if (!sender.stopped) {
                    if (sign != BLANK && wheelOf(sign) != sender.wheel) {
                        give(SHIFT, 1);
                    }
                    int steps = Math.floorMod(placeOf(sign) - sender.place, PLACES);
                    give(STEP, Math.min(steps, RUN_TO_STOP - sender.steps));
                }
                boolean isBrought = !sender.stopped;
                give(PRINT, 1);
                if (isBrought) {
                    return;
                }
            }
        }

        void bringTogether() {
            give(STEP, UNISON_STEPS);
            give(PRINT, 1);
        }

        /** The row, with a unison behind each every-th sign (0: never). */
        void carryRow(Row row, int every) {
            for (int i = 0; i < row.size; i++) {
                carry(row.at(i));
                if (every > 0 && (i + 1) % every == 0) {
                    bringTogether();
                }
            }
        }

        int howManyStandAsSender() {
            int alike = 0;
            for (int i = 0; i < size; i++) {
                Machine m = machines[i];
                if (m.living && m.place == sender.place && m.wheel == sender.wheel) {
                    alike++;
                }
            }
            return alike;
        }

        int wrongOnLiving() {
            int all = 0;
            for (int i = 0; i < size; i++) {
                if (machines[i].living) {
                    all += machines[i].wrongAgainst(sender);
                }
            }
            return all;
        }

        void tearAll() {
            sender.printed = 0;
            for (int i = 0; i < size; i++) {
                machines[i].printed = 0;
            }
        }

        /** As the other line stands now, with empty ribbons, for trying something out. */
        void standAs(Line other) {
            standAsSenderOf(other);
            power = other.power;
            loss = other.loss;
            pace = other.pace;
            size = other.size;
            for (int i = 0; i < size; i++) {
                machines[i].standAs(other.machines[i]);
            }
            slipsHeld = other.slipsHeld;
            System.arraycopy(other.slipMachine, 0, slipMachine, 0, slipsHeld);
            System.arraycopy(other.slipPulse, 0, slipPulse, 0, slipsHeld);
        }

        /** The other line's sender alone: enough where only pulses are counted. */
        void standAsSenderOf(Line other) {
            sender.standAs(other.sender);
            pulses = other.pulses;
            size = 0;
            slipsHeld = 0;
        }

        /** How many pulses a text takes from place 0 on letters until the wheel is back on letters. */
        int pulsesFromRestTo(Row written) {
            sender.rest();
            pulses = 0;
            size = 0;
            slipsHeld = 0;
            carryRow(written, 0);
            return sender.wheel == LETTERS ? pulses : pulses + 1;
        }
    }

    /** A row of signs with a limit. */
    private static final class Row {
        final int[] signs;
        int size;
        int changes;

        Row(int room) {
            signs = new int[Math.max(room, 0)];
        }

        boolean hasRoomFor(int n) {
            return n <= signs.length - size;
        }

        void put(int sign) {
            if (hasRoomFor(1)) {
                signs[size] = sign;
                size++;
                changes++;
            }
        }

        void putNumber(int number, int digits) {
            int unit = 1;
            for (int i = 1; i < digits; i++) {
                unit *= 10;
            }
            for (int i = 0; i < digits && unit > 0; i++) {
                put(DIGIT_0 + number / unit % 10);
                unit /= 10;
            }
        }

        void makeEmpty() {
            size = 0;
            changes++;
        }

        int at(int i) {
            return i >= 0 && i < size ? signs[i] : NONE;
        }

        /** How many digits stand there from a place on, counted up to a limit. */
        int digitsFrom(int from, int limit) {
            int n = 0;
            while (n < limit && isDigit(at(from + n))) {
                n++;
            }
            return n;
        }

        int numberAt(int from, int digits) {
            int number = 0;
            for (int i = 0; i < digits; i++) {
                number = number * 10 + at(from + i) - DIGIT_0;
            }
            return number;
        }

        long mixInto(long h) {
            long mixed = h;
            for (int i = 0; i < size; i++) {
                mixed = 31 * mixed + signs[i];
            }
            return mixed;
        }
    }

    /** The firms: four letters each, 0s behind, and the last price told. */
    private static final class Firms {
        final int[] letters = new int[FIRM_ROOM * CODE_ROOM];
        final int[] lastPrice = new int[FIRM_ROOM];
        int size;

        Firms() {
            Arrays.fill(lastPrice, NONE);
        }

        boolean has(int firm) {
            return firm >= 0 && firm < size;
        }

        int letter(int firm, int i) {
            return has(firm) && i >= 0 && i < CODE_ROOM ? letters[firm * CODE_ROOM + i] : 0;
        }

        int found(int a, int b, int c, int d) {
            int at = size * CODE_ROOM;
            letters[at] = a;
            letters[at + 1] = b;
            letters[at + 2] = c;
            letters[at + 3] = d;
            size++;
            return size - 1;
        }

        int numberOf(int a, int b, int c, int d) {
            for (int f = 0; f < size; f++) {
                int at = f * CODE_ROOM;
                if (letters[at] == a && letters[at + 1] == b && letters[at + 2] == c && letters[at + 3] == d) {
                    return f;
                }
            }
            return NONE;
        }

        /** The firm whose code is all the letters of a row from one place to ahead of another. */
        int spelled(Row row, int from, int to) {
            int n = to - from;
            if (n < 1 || n > CODE_ROOM) {
                return NONE;
            }
            return numberOf(row.at(from), n > 1 ? row.at(from + 1) : 0,
                    n > 2 ? row.at(from + 2) : 0, n > 3 ? row.at(from + 3) : 0);
        }

        void putCode(int firm, Row row) {
            for (int i = 0; i < CODE_ROOM; i++) {
                if (letter(firm, i) != 0) {
                    row.put(letter(firm, i));
                }
            }
        }

        boolean lastHasHundredsOf(int firm, int price) {
            return has(firm) && lastPrice[firm] != NONE && lastPrice[firm] / 800 == price / 800;
        }

        long mixInto(long h) {
            long mixed = h;
            for (int f = 0; f < size; f++) {
                for (int i = 0; i < CODE_ROOM; i++) {
                    mixed = 31 * mixed + letter(f, i);
                }
                mixed = 31 * mixed + lastPrice[f];
            }
            return mixed;
        }
    }

    /** The quotes that a row is read as, and the fault that ends the reading. */
    private static final class Reading {
        final int[] firm = new int[ROW_ROOM];
        final int[] price = new int[ROW_ROOM];
        final int[] hundreds = new int[ROW_ROOM];
        final int[] lasts = new int[FIRM_ROOM];
        int size;
        int faultPlace, faultSort;
        private int at;

        void readRow(Row row, Firms firms) {
            System.arraycopy(firms.lastPrice, 0, lasts, 0, FIRM_ROOM);
            size = 0;
            at = 0;
            faultPlace = NONE;
            faultSort = NONE;
            for (int turn = 0; turn < ROW_ROOM; turn++) {
                passBlanks(row);
                if (at >= row.size || !readQuote(row, firms)) {
                    return;
                }
            }
        }

        private void passBlanks(Row row) {
            while (at < row.size && row.at(at) == BLANK) {
                at++;
            }
        }

        private boolean readQuote(Row row, Firms firms) {
            int who = readCode(row, firms);
            if (who == NONE) {
                return false;
            }
            int dollars = readDollars(row, who);
            if (dollars == NONE) {
                return false;
            }
            int eighth = 0;
            if (isEighth(row.at(at))) {
                eighth = row.at(at) - EIGHTH_1 + 1;
                at++;
            }
            int shares = row.at(at) == SHARES_MARK ? readShares(row) : 1;
            if (shares == NONE) {
                return false;
            }
            if (row.at(at) != BLANK) {
                faultHere(row);
                return false;
            }
            at++;
            keep(who, dollars * 8 + eighth, shares);
            return true;
        }

        private int readCode(Row row, Firms firms) {
            int from = at;
            while (at < row.size && isLetter(row.at(at))) {
                at++;
            }
            if (at == from) {
                return faultHere(row);
            }
            int who = firms.spelled(row, from, at);
            return who == NONE ? fault(at, NO_CODE) : who;
        }

        private int readDollars(Row row, int who) {
            int from = at;
            int digits = row.digitsFrom(from, 4);
            at += digits;
            if (digits < 2) {
                return faultHere(row);
            }
            int number = row.numberAt(from, digits);
            if (digits > 2) {
                return number;
            }
            if (lasts[who] == NONE) {
                return fault(from, NO_LAST);
            }
            return lasts[who] / 800 * 100 + number;
        }

        private int readShares(Row row) {
            at++;
            if (row.at(at) == DIGIT_0) {
                return faultHere(row);
            }
            int digits = row.digitsFrom(at, 3);
            int number = row.numberAt(at, digits);
            at += digits;
            // A 1 alone is no fault by itself: only what stands behind it shows that it is alone.
            return number < 2 ? faultHere(row) : number;
        }

        private int faultHere(Row row) {
            return fault(at, at < row.size ? NOT_HERE : TOO_EARLY);
        }

        private int fault(int place, int sort) {
            faultPlace = place;
            faultSort = sort;
            return NONE;
        }

        private void keep(int who, int eighths, int shares) {
            if (size < ROW_ROOM) {
                firm[size] = who;
                price[size] = eighths;
                hundreds[size] = shares;
                size++;
                lasts[who] = eighths;
            }
        }
    }

    /** The quotes that are to be told. */
    private static final class Queue {
        final int[] minute = new int[QUEUE_ROOM];
        final int[] due = new int[QUEUE_ROOM];
        final int[] firm = new int[QUEUE_ROOM];
        final int[] price = new int[QUEUE_ROOM];
        final int[] hundreds = new int[QUEUE_ROOM];
        final int[] textPulses = new int[QUEUE_ROOM];
        int size;
        int changes;

        int append(int comes, int by, int who, int eighths, int shares, int pulses) {
            if (size >= QUEUE_ROOM) {
                return FULL;
            }
            minute[size] = comes;
            due[size] = by;
            textPulses[size] = pulses;
            firm[size] = who;
            price[size] = eighths;
            hundreds[size] = shares;
            size++;
            changes++;
            return size - 1;
        }

        void makeEmpty() {
            size = 0;
            changes++;
        }

        int duration(int quote, int pace) {
            int perMinute = pace * 10;
            if (quote < 0 || quote >= size || perMinute < 1) {
                return 0;
            }
            return (textPulses[quote] + perMinute - 1) / perMinute;
        }

        long mixInto(long h) {
            long mixed = h;
            for (int q = 0; q < size; q++) {
                mixed = 31 * mixed + minute[q];
                mixed = 31 * mixed + due[q];
                mixed = 31 * mixed + firm[q];
                mixed = 31 * mixed + price[q];
                mixed = 31 * mixed + hundreds[q];
            }
            return mixed;
        }
    }

    /** The most in time: sets of quotes as numbers, a bit for each quote. */
    private static final class Plan {
        private static final int NEVER = 1000000;

        // The first minute at which a set can be done, told from the asked minute on.
        final int[] finish = new int[1 << QUEUE_ROOM];
        // The last minute from which on a set can still be done with the best set's end.
        final int[] latest = new int[1 << QUEUE_ROOM];
        final int[] duration = new int[QUEUE_ROOM];
        final int[] order = new int[QUEUE_ROOM];
        int best, done, orderSize;
        private int madeFrom = NONE, madePace, madeChanges;

        /** Kept as long as nothing that it hangs on is changed: it is asked for quote by quote. */
        void make(Queue queue, int from, int pace) {
            if (from == madeFrom && pace == madePace && queue.changes == madeChanges) {
                return;
            }
            madeFrom = from;
            madePace = pace;
            madeChanges = queue.changes;
            for (int q = 0; q < queue.size; q++) {
                duration[q] = queue.duration(q, pace);
            }
            findBest(queue, from);
            findLatest(queue);
            findOrder(queue, from);
        }

        private void findBest(Queue queue, int from) {
            int sets = 1 << queue.size;
            Arrays.fill(finish, 0, sets, NEVER);
            finish[0] = from;
            best = 0;
            for (int set = 0; set < sets; set++) {
                if (finish[set] != NEVER) {
                    if (isBetter(set)) {
                        best = set;
                    }
                    extend(queue, set);
                }
            }
            done = finish[best];
        }

        private boolean isBetter(int set) {
            int more = Integer.bitCount(set) - Integer.bitCount(best);
            return more > 0 || more == 0 && finish[set] < finish[best];
        }

        private void extend(Queue queue, int set) {
            for (int q = 0; q < queue.size; q++) {
                int with = set | 1 << q;
                if (with != set) {
                    int end = Math.max(finish[set], queue.minute[q]) + duration[q];
                    if (end <= queue.due[q] && end < finish[with]) {
                        finish[with] = end;
                    }
                }
            }
        }

        private void findLatest(Queue queue) {
            latest[0] = done;
            for (int set = 1; set <= best; set++) {
                if ((set & ~best) == 0) {
                    latest[set] = latestStart(queue, set);
                }
            }
        }

        private int latestStart(Queue queue, int set) {
            int start = NONE;
            for (int q = 0; q < queue.size; q++) {
                int without = set & ~(1 << q);
                if (without != set && latest[without] != NONE) {
                    int begin = Math.min(latest[without], queue.due[q]) - duration[q];
                    if (begin >= queue.minute[q] && begin > start) {
                        start = begin;
                    }
                }
            }
            return start;
        }

        private void findOrder(Queue queue, int from) {
            int now = from;
            int left = best;
            orderSize = 0;
            for (int turn = 0; turn < QUEUE_ROOM && left != 0; turn++) {
                int q = firstThatFits(queue, left, now);
                if (q == NONE) {
                    return;
                }
                now = Math.max(now, queue.minute[q]) + duration[q];
                left &= ~(1 << q);
                order[orderSize] = q;
                orderSize++;
            }
        }

        private int firstThatFits(Queue queue, int left, int now) {
            for (int q = 0; q < queue.size; q++) {
                int without = left & ~(1 << q);
                if (without != left) {
                    int end = Math.max(now, queue.minute[q]) + duration[q];
                    if (end <= queue.due[q] && end <= latest[without]) {
                        return q;
                    }
                }
            }
            return NONE;
        }
    }

    /** The tape: every quote in order of coming, each as soon as it may be. */
    private static final class Tape {
        final int[] inOrder = new int[QUEUE_ROOM];
        final int[] begun = new int[QUEUE_ROOM];
        final int[] ended = new int[QUEUE_ROOM];

        void run(Queue queue, int pace) {
            sortByComing(queue);
            int free = 0;
            for (int i = 0; i < queue.size; i++) {
                int q = inOrder[i];
                begun[q] = Math.max(free, queue.minute[q]);
                ended[q] = begun[q] + queue.duration(q, pace);
                free = ended[q];
            }
        }

        private void sortByComing(Queue queue) {
            for (int q = 0; q < queue.size; q++) {
                int at = q;
                while (at > 0 && queue.minute[inOrder[at - 1]] > queue.minute[q]) {
                    inOrder[at] = inOrder[at - 1];
                    at--;
                }
                inOrder[at] = q;
            }
        }

        int beingToldAt(Queue queue, int minute) {
            for (int q = 0; q < queue.size; q++) {
                if (begun[q] <= minute && minute < ended[q]) {
                    return q;
                }
            }
            return NONE;
        }

        int waitingAt(Queue queue, int minute) {
            int waiting = 0;
            for (int q = 0; q < queue.size; q++) {
                if (queue.minute[q] <= minute && begun[q] > minute) {
                    waiting++;
                }
            }
            return waiting;
        }

        int priceTold(Queue queue, int firm, int minute) {
            int told = NONE;
            for (int i = 0; i < queue.size; i++) {
                int q = inOrder[i];
                if (queue.firm[q] == firm && ended[q] <= minute) {
                    told = queue.price[q];
                }
            }
            return told;
        }

        int priceTrue(Queue queue, int firm, int minute) {
            int come = NONE;
            for (int i = 0; i < queue.size; i++) {
                int q = inOrder[i];
                if (queue.firm[q] == firm && queue.minute[q] <= minute) {
                    come = queue.price[q];
                }
            }
            return come;
        }
    }

    /**
     * What may stand behind what in a whole row. State 0 is between quotes, the next ones follow
     * a code, and those behind them are beginnings of codes, as many as the firms need.
     */
    private static final class Grammar {
        private static final int BETWEEN = 0, ONE_DIGIT = 1, TWO_DIGITS = 2, THREE_DIGITS = 3, FOUR_DIGITS = 4;
        private static final int WITH_EIGHTH = 5, WITH_MARK = 6, ONE_ALONE = 7, SHARES_1 = 8, SHARES_2 = 9;
        private static final int SHARES_3 = 10, FIRST_NODE = 11;
        // 59 at most, so that a set of states is a long.
        private static final int STATE_ROOM = FIRST_NODE + FIRM_ROOM * CODE_ROOM;

        final int[] next = new int[STATE_ROOM * SIGNS];
        // Of each state the set of those that come next by any sign, a bit for each.
        final long[] nextSet = new long[STATE_ROOM];
        private int firmsKnown = NONE;
        private int states;

        /** Codes never change, so that only a new firm asks for new states. */
        void learn(Firms firms) {
            if (firmsKnown == firms.size) {
                return;
            }
            firmsKnown = firms.size;
            Arrays.fill(next, NONE);
            states = FIRST_NODE;
            for (int f = 0; f < firms.size; f++) {
                learnCode(firms, f);
            }
            learnPrices();
            learnShares();
            for (int state = 0; state < states; state++) {
                nextSet[state] = setBehind(state);
            }
        }

        private void learnCode(Firms firms, int f) {
            int node = BETWEEN;
            for (int i = 0; i < CODE_ROOM && firms.letter(f, i) != 0; i++) {
                int child = after(node, firms.letter(f, i));
                if (child == NONE) {
                    child = states;
                    states++;
                    allow(node, firms.letter(f, i), firms.letter(f, i), child);
                }
                node = child;
            }
            allow(node, DIGIT_0, DIGIT_9, ONE_DIGIT);
        }

        private void learnPrices() {
            allow(ONE_DIGIT, DIGIT_0, DIGIT_9, TWO_DIGITS);
            allow(TWO_DIGITS, DIGIT_0, DIGIT_9, THREE_DIGITS);
            allow(THREE_DIGITS, DIGIT_0, DIGIT_9, FOUR_DIGITS);
            for (int state = TWO_DIGITS; state <= FOUR_DIGITS; state++) {
                allow(state, EIGHTH_1, EIGHTH_7, WITH_EIGHTH);
            }
            for (int state = TWO_DIGITS; state <= WITH_EIGHTH; state++) {
                allow(state, SHARES_MARK, SHARES_MARK, WITH_MARK);
                allow(state, BLANK, BLANK, BETWEEN);
            }
        }

        private void learnShares() {
            allow(WITH_MARK, DIGIT_1, DIGIT_1, ONE_ALONE);
            allow(WITH_MARK, DIGIT_1 + 1, DIGIT_9, SHARES_1);
            allow(ONE_ALONE, DIGIT_0, DIGIT_9, SHARES_2);
            allow(SHARES_1, DIGIT_0, DIGIT_9, SHARES_2);
            allow(SHARES_2, DIGIT_0, DIGIT_9, SHARES_3);
            for (int state = SHARES_1; state <= SHARES_3; state++) {
                allow(state, BLANK, BLANK, BETWEEN);
            }
        }

        private void allow(int state, int fromSign, int toSign, int to) {
            for (int sign = fromSign; sign <= toSign; sign++) {
                next[state * SIGNS + sign] = to;
            }
        }

        private long setBehind(int state) {
            long set = 0;
            for (int sign = 0; sign < SIGNS; sign++) {
                int to = after(state, sign);
                if (to != NONE) {
                    set |= 1L << to;
                }
            }
            return set;
        }

        int after(int state, int sign) {
            if (outside(state, 0, STATE_ROOM - 1) || outside(sign, 0, SIGNS - 1)) {
                return NONE;
            }
            return next[state * SIGNS + sign];
        }

        /** The states from which a sign leads into a set. */
        long ahead(int sign, long set) {
            long found = 0;
            for (int state = 0; state < states; state++) {
                int to = next[state * SIGNS + sign];
                if (to != NONE && (set >>> to & 1L) != 0) {
                    found |= 1L << state;
                }
            }
            return found;
        }

        /** The states from which any sign leads into a set. */
        long aheadByAny(long set) {
            long found = 0;
            for (int state = 0; state < states; state++) {
                if ((nextSet[state] & set) != 0) {
                    found |= 1L << state;
                }
            }
            return found;
        }
    }

    /**
     * The repair of a row. A point is how many signs of the row are used, how many steps are lost
     * up to there (never above the most slips), and whether the wheel is wrong.
     */
    private static final class Repair {
        private static final int PER_SIGN = (MOST_LOST + 1) * 2, POINTS = (ROW_ROOM + 1) * PER_SIGN;
        private static final int A_STEP = 2;

        final Row found = new Row(REPAIR_ROOM);
        int slips = NONE;
        private final Grammar grammar = new Grammar();
        // What the sign that is printed next at a point should have been, taken to be of its own
        // wheel and, if it is a blank, of the other one.
        private final int[] meant = new int[POINTS];
        private final int[] orMeant = new int[POINTS];
        // For slips left and a point: the states of the grammar from which the row can be ended.
        private final long[] endable = new long[(MOST_LOST + 1) * POINTS];
        // Of each point the slips left there behind the row that is found so far, or NONE.
        private final int[] now = new int[POINTS];
        private final int[] then = new int[POINTS];
        private int end;
        private int soughtChanges = NONE, soughtFirms = NONE;

        /** Kept as long as the row and the codes are the same: it is asked for sign by sign. */
        void seek(Row row, Firms firms) {
            if (row.changes == soughtChanges && firms.size == soughtFirms) {
                return;
            }
            soughtChanges = row.changes;
            soughtFirms = firms.size;
            grammar.learn(firms);
            found.makeEmpty();
            slips = NONE;
            if (row.size > 0 && row.size <= ROW_ROOM) {
                end = row.size * PER_SIGN;
                findMeant(row);
                findEndable();
                slips = fewestSlips();
            }
            if (slips != NONE) {
                spell();
            }
        }

        private void findMeant(Row row) {
            for (int point = 0; point < end; point++) {
                int sign = row.at(point / PER_SIGN);
                int wheel = point % 2 == 0 ? wheelOf(sign) : FIGURES - wheelOf(sign);
                int place = (placeOf(sign) + lostSteps(point)) % PLACES;
                meant[point] = signAt(wheel, place);
                orMeant[point] = sign == BLANK ? signAt(FIGURES - wheel, place) : meant[point];
            }
        }

        private static int lostSteps(int point) {
            return point % PER_SIGN / 2;
        }

        /** Lost steps are slips, too: points with more of them than slips are gone are never asked for. */
        private void findEndable() {
            for (int left = 0; left <= MOST_LOST; left++) {
                int base = left * POINTS;
                Arrays.fill(endable, base + end, base + end + PER_SIGN, 1L << Grammar.BETWEEN);
                for (int point = end - 1; point >= 0; point--) {
                    if (lostSteps(point) + left <= MOST_LOST) {
                        long states = printedHere(base + point, point);
                        endable[base + point] = left == 0 ? states : states | lostHere(base - POINTS + point);
                    }
                }
            }
        }

        private long printedHere(int at, int point) {
            long behind = endable[at + PER_SIGN];
            if (behind == 0) {
                return 0;
            }
            long states = grammar.ahead(meant[point], behind);
            return orMeant[point] == meant[point] ? states : states | grammar.ahead(orMeant[point], behind);
        }

        /** The point is that of one slip less, so that there a step more can be lost. */
        private long lostHere(int at) {
            return endable[at ^ 1] | endable[at + A_STEP] | grammar.aheadByAny(endable[at]);
        }

        private int fewestSlips() {
            for (int left = 0; left <= MOST_LOST; left++) {
                if (canEnd(Grammar.BETWEEN, 0, left)) {
                    return left;
                }
            }
            return NONE;
        }

        private boolean canEnd(int state, int point, int left) {
            if (left < 0 || left > MOST_LOST || point < 0 || point >= POINTS) {
                return false;
            }
            return (endable[left * POINTS + point] >>> state & 1L) != 0;
        }

        /** The first row sign by sign: all the points are followed at which it may have come to be. */
        private void spell() {
            int state = Grammar.BETWEEN;
            Arrays.fill(now, NONE);
            now[0] = slips;
            for (int turn = 0; turn < REPAIR_ROOM; turn++) {
                loseStepsAndShifts(state);
                int sign = isEnded() ? NONE : leastSign(state);
                if (sign == NONE) {
                    return;
                }
                state = grammar.after(state, sign);
                moveOn(sign, state);
                found.put(sign);
            }
        }

        private void loseStepsAndShifts(int state) {
            for (int left = slips; left > 0; left--) {
                for (int point = 0; point < end; point++) {
                    if (now[point] == left) {
                        reach(point ^ 1, left - 1, state);
                        if (lostSteps(point) < MOST_LOST) {
                            reach(point + A_STEP, left - 1, state);
                        }
                    }
                }
            }
        }

        private void reach(int point, int left, int state) {
            if (left > now[point] && canEnd(state, point, left)) {
                now[point] = left;
            }
        }

        private boolean isEnded() {
            for (int i = 0; i < PER_SIGN; i++) {
                if (now[end + i] != NONE) {
                    return true;
                }
            }
            return false;
        }

        private int leastSign(int state) {
            for (int sign = 0; sign < SIGNS; sign++) {
                int to = grammar.after(state, sign);
                if (to != NONE && isNext(sign, to)) {
                    return sign;
                }
            }
            return NONE;
        }

        private boolean isNext(int sign, int to) {
            for (int point = 0; point < end; point++) {
                if (now[point] != NONE && (canPrint(point, sign, to) || canEnd(to, point, now[point] - 1))) {
                    return true;
                }
            }
            return false;
        }

        private boolean canPrint(int point, int sign, int to) {
            return (meant[point] == sign || orMeant[point] == sign) && canEnd(to, point + PER_SIGN, now[point]);
        }

        private void moveOn(int sign, int to) {
            Arrays.fill(then, NONE);
            for (int point = 0; point < end; point++) {
                int left = now[point];
                if (left != NONE && canPrint(point, sign, to)) {
                    then[point + PER_SIGN] = Math.max(then[point + PER_SIGN], left);
                }
                if (left != NONE && canEnd(to, point, left - 1)) {
                    then[point] = Math.max(then[point], left - 1);
                }
            }
            System.arraycopy(then, 0, now, 0, POINTS);
        }
    }
}
