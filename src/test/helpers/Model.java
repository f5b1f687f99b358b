import java.util.ArrayList;
import java.util.Arrays;
import java.util.HashSet;
import java.util.List;
import java.util.Set;
import java.util.regex.Matcher;
import java.util.regex.Pattern;

/**
 * The document once more, written as naively as can be (pulse by pulse, all orders, all repairs),
 * so that runs of calls on it and on TickerHouse can be held against each other.
 */
final class Model {
    static final int NONE = -1, BAD = -2, NO = -3, FULL = -4;

    static final class M {
        int length, dull, need, place, wheel, run, missed;
        boolean stopped, alive = true;
        List<Integer> ribbon = new ArrayList<>();
        int room = 300;

        M copy() {
            M c = new M();
            c.length = length;
            c.dull = dull;
            c.need = need;
            c.place = place;
            c.wheel = wheel;
            c.run = run;
            c.stopped = stopped;
            c.alive = alive;
            c.room = 1000000;
            return c;
        }

        void get(int kind) {
            if (kind == 0 && !stopped) {
                place = place == 27 ? 0 : place + 1;
                run++;
                if (run == 56) {
                    stopped = true;
                    place = 0;
                    wheel = 0;
                }
            }
            if (kind == 1) {
                if (ribbon.size() < room) {
                    ribbon.add(signOn(wheel, place));
                }
                run = 0;
                stopped = false;
            }
            if (kind == 2 && !stopped) {
                wheel = 1 - wheel;
            }
        }

        int[] about() {
            return new int[] {place, wheel, run, stopped ? 1 : 0, ribbon.size(), missed, alive ? 1 : 0};
        }
    }

    static final class Wire {
        M sender = new M();
        List<M> ms = new ArrayList<>();
        int power = 1000, loss = 50, pace = 5, pulses = 0, told = 0;
        Set<Long> slips = new HashSet<>();

        Wire copy() {
            Wire c = new Wire();
            c.sender = sender.copy();
            for (M m : ms) {
                c.ms.add(m.copy());
            }
            c.power = power;
            c.loss = loss;
            c.pace = pace;
            c.pulses = pulses;
            c.slips = slips;
            return c;
        }

        int over(M m) {
            return power - m.length * loss / 100 - pace * m.dull - m.need;
        }

        void pulse(int kind) {
            sender.get(kind);
            for (int i = 0; i < ms.size(); i++) {
                M m = ms.get(i);
                if (m.alive && over(m) >= 0 && !slips.contains(i * 1000000L + pulses)) {
                    m.get(kind);
                } else {
                    m.missed++;
                }
            }
            pulses++;
        }

        void bring(int sign) {
            if (sender.stopped) {
                pulse(1);
            }
            if (sign != 0 && wheelOf(sign) != sender.wheel) {
                pulse(2);
            }
            while (sender.place != placeOf(sign)) {
                pulse(0);
                if (sender.stopped) {
                    pulse(1);
                    bring(sign);
                    return;
                }
            }
            pulse(1);
        }

        void unison() {
            for (int i = 0; i < 64; i++) {
                pulse(0);
            }
            pulse(1);
        }
    }

    static int wheelOf(int sign) {
        return sign >= 27 && sign <= 53 ? 1 : 0;
    }

    static int placeOf(int sign) {
        return sign == 54 ? 27 : sign > 26 ? sign - 26 : sign;
    }

    static int signOn(int wheel, int place) {
        return place == 0 ? 0 : wheel == 1 ? 26 + place : place == 27 ? 54 : place;
    }

    static int wrongOf(List<Integer> a, List<Integer> b) {
        int n = Math.abs(a.size() - b.size());
        for (int i = 0; i < a.size() && i < b.size(); i++) {
            n += a.get(i).equals(b.get(i)) ? 0 : 1;
        }
        return n;
    }

    Wire wire = new Wire();
    List<Integer> row = new ArrayList<>();
    List<int[]> codes = new ArrayList<>();
    List<Integer> lasts = new ArrayList<>();
    boolean shorts = false;
    List<int[]> queue = new ArrayList<>();

    int machine(int length, int dull, int need) {
        if (length < 0 || length > 1000 || dull < 0 || dull > 20 || need < 0 || need > 1000) {
            return BAD;
        }
        if (wire.ms.size() == 8) {
            return FULL;
        }
        M m = new M();
        m.length = length;
        m.dull = dull;
        m.need = need;
        wire.ms.add(m);
        return wire.ms.size() - 1;
    }

    boolean no(int machine) {
        return machine < 0 || machine >= wire.ms.size();
    }

    int alive(int machine, boolean is) {
        if (no(machine)) {
            return BAD;
        }
        if (wire.ms.get(machine).alive == is) {
            return NO;
        }
        wire.ms.get(machine).alive = is;
        return 1;
    }

    int line(int power, int loss, int pace) {
        if (power < 0 || power > 2000 || loss < 0 || loss > 200 || pace < 1 || pace > 50) {
            return BAD;
        }
        wire.power = power;
        wire.loss = loss;
        wire.pace = pace;
        return 1;
    }

    int slip(int machine, int pulse) {
        if (no(machine) || pulse < 0 || pulse > 100000) {
            return BAD;
        }
        if (wire.told == 40) {
            return FULL;
        }
        wire.slips.add(machine * 1000000L + pulse);
        return ++wire.told;
    }

    int over(int machine) {
        return no(machine) ? -100000 : wire.over(wire.ms.get(machine));
    }

    int pulse(int kind) {
        if (kind < 0 || kind > 2) {
            return BAD;
        }
        if (wire.pulses == 100001) {
            return FULL;
        }
        wire.pulse(kind);
        return wire.pulses - 1;
    }

    int bring(int sign) {
        if (sign < 0 || sign > 54) {
            return BAD;
        }
        Wire t = wire.copy();
        t.bring(sign);
        if (t.pulses > 100001) {
            return FULL;
        }
        int before = wire.pulses;
        wire.bring(sign);
        return wire.pulses - before;
    }

    int unison() {
        if (wire.pulses + 65 > 100001) {
            return FULL;
        }
        wire.unison();
        int n = 0;
        for (M m : wire.ms) {
            n += m.alive && m.place == wire.sender.place && m.wheel == wire.sender.wheel ? 1 : 0;
        }
        return n;
    }

    int about(int machine, int what) {
        if (machine != NONE && no(machine) || what < 0 || what > 6) {
            return BAD;
        }
        return (machine == NONE ? wire.sender : wire.ms.get(machine)).about()[what];
    }

    int ribbon(int machine, int i) {
        if (machine != NONE && no(machine) || i < 0) {
            return BAD;
        }
        List<Integer> r = (machine == NONE ? wire.sender : wire.ms.get(machine)).ribbon;
        return i < r.size() ? r.get(i) : NONE;
    }

    int wrong(int machine) {
        return no(machine) ? BAD : wrongOf(wire.ms.get(machine).ribbon, wire.sender.ribbon);
    }

    int tear() {
        int n = wire.sender.ribbon.size();
        wire.sender.ribbon.clear();
        for (M m : wire.ms) {
            m.ribbon.clear();
        }
        return n;
    }

    int sign(int v) {
        if (v < 0 || v > 54) {
            return BAD;
        }
        if (row.size() == 40) {
            return FULL;
        }
        row.add(v);
        return row.size();
    }

    int cut(int machine, int from, int n) {
        if (machine != NONE && no(machine) || from < 0 || n < 0) {
            return BAD;
        }
        List<Integer> r = (machine == NONE ? wire.sender : wire.ms.get(machine)).ribbon;
        if ((long) from + n > r.size()) {
            return BAD;
        }
        if (row.size() + n > 40) {
            return FULL;
        }
        row.addAll(new ArrayList<>(r.subList(from, from + n)));
        return row.size();
    }

    int clear() {
        int n = row.size();
        row.clear();
        return n;
    }

    int rowAt(int i) {
        return i >= 0 && i < row.size() ? row.get(i) : NONE;
    }

    int send() {
        Wire t = wire.copy();
        for (int v : row) {
            t.bring(v);
        }
        if (t.pulses > 100001) {
            return FULL;
        }
        int before = wire.pulses;
        for (int v : row) {
            wire.bring(v);
        }
        return wire.pulses - before;
    }

    int firm(int a, int b, int c, int d) {
        int[] code = {a, b, c, d};
        for (int i = 0; i < 4; i++) {
            if (code[i] < 0 || code[i] > 26 || i > 0 && code[i] != 0 && code[i - 1] == 0) {
                return BAD;
            }
        }
        if (a == 0) {
            return BAD;
        }
        for (int[] other : codes) {
            if (Arrays.equals(other, code)) {
                return NO;
            }
        }
        if (codes.size() == 12) {
            return FULL;
        }
        codes.add(code);
        lasts.add(NONE);
        return codes.size() - 1;
    }

    int shorts(boolean on) {
        shorts = on;
        return 1;
    }

    int last(int firm) {
        return firm < 0 || firm >= codes.size() ? BAD : lasts.get(firm);
    }

    boolean noQuote(int firm, int price, int hundreds) {
        return firm < 0 || firm >= codes.size() || price < 0 || price > 79999 || hundreds < 1 || hundreds > 999;
    }

    List<Integer> text(int firm, int price, int hundreds, boolean brief) {
        StringBuilder s = new StringBuilder();
        for (int letter : codes.get(firm)) {
            if (letter != 0) {
                s.append((char) ('A' + letter - 1));
            }
        }
        int dollars = price / 8;
        s.append(brief ? String.format("%02d", dollars % 100) : String.format("%03d", dollars));
        if (price % 8 != 0) {
            s.append((char) ('a' + price % 8 - 1));
        }
        if (hundreds != 1) {
            s.append('m').append(hundreds);
        }
        return signs(s.append('_').toString());
    }

    static final String CHARS = "_ABCDEFGHIJKLMNOPQRSTUVWXYZ0123456789abcdefgm!!!!!!!!!*";

    static List<Integer> signs(String s) {
        List<Integer> r = new ArrayList<>();
        for (char c : s.toCharArray()) {
            r.add(CHARS.indexOf(c));
        }
        return r;
    }

    static String chars(List<Integer> signs) {
        StringBuilder s = new StringBuilder();
        for (int v : signs) {
            s.append(CHARS.charAt(v));
        }
        return s.toString();
    }

    int write(int firm, int price, int hundreds) {
        if (noQuote(firm, price, hundreds)) {
            return BAD;
        }
        int last = lasts.get(firm);
        List<Integer> t = text(firm, price, hundreds, shorts && last != NONE && last / 8 / 100 == price / 8 / 100);
        if (row.size() + t.size() > 40) {
            return FULL;
        }
        row.addAll(t);
        lasts.set(firm, price);
        return t.size();
    }

    // What the row is read as.
    List<int[]> quotes;
    int faultPlace, faultSort;
    List<Integer> readLasts;

    /** Sign by sign with what may come; the text ends with a '$' that fits nowhere. */
    void readRow() {
        String s = chars(row) + "$";
        quotes = new ArrayList<>();
        readLasts = new ArrayList<>(lasts);
        faultPlace = NONE;
        faultSort = NONE;
        int at = 0;
        while (true) {
            while (s.charAt(at) == '_') {
                at++;
            }
            if (s.charAt(at) == '$') {
                return;
            }
            int from = at;
            while (Character.isUpperCase(s.charAt(at))) {
                at++;
            }
            if (at == from) {
                fault(at, 1);
                return;
            }
            int firm = codeNames().indexOf(s.substring(from, at));
            if (firm < 0) {
                fault(at, 2);
                return;
            }
            String rest = s.substring(at);
            if (rest.matches("[0-9][0-9]([^0-9].*)?") && readLasts.get(firm) == NONE) {
                fault(at, 3);
                return;
            }
            Matcher m = Pattern.compile("([0-9]{2,4})([a-g]?)(?:m(1[0-9]{1,2}|[2-9][0-9]{0,2}))?_").matcher(rest);
            if (!m.lookingAt()) {
                int good = goodPrefix(rest);
                fault(at + good, rest.charAt(good) == '$' ? 4 : 1);
                return;
            }
            int dollars = Integer.parseInt(m.group(1));
            if (m.group(1).length() == 2) {
                dollars += readLasts.get(firm) / 8 / 100 * 100;
            }
            int price = dollars * 8 + (m.group(2).isEmpty() ? 0 : m.group(2).charAt(0) - 'a' + 1);
            quotes.add(new int[] {firm, price, m.group(3) == null ? 1 : Integer.parseInt(m.group(3))});
            readLasts.set(firm, price);
            at += m.end();
        }
    }

    /** How many signs of a text that is no rest of a quote can still be the beginning of one. */
    static int goodPrefix(String rest) {
        int n = 0;
        while (rest.substring(0, n + 1).matches("[0-9]{0,4}|[0-9]{2,4}[a-g]?(m([1-9][0-9]{0,2})?)?")) {
            n++;
        }
        return n;
    }

    void fault(int place, int sort) {
        faultPlace = place;
        faultSort = sort;
    }

    List<String> codeNames() {
        List<String> names = new ArrayList<>();
        for (int[] code : codes) {
            StringBuilder s = new StringBuilder();
            for (int letter : code) {
                s.append(letter == 0 ? "" : String.valueOf((char) ('A' + letter - 1)));
            }
            names.add(s.toString());
        }
        return names;
    }

    int read(int what) {
        if (what < 0 || what > 2) {
            return BAD;
        }
        readRow();
        return what == 0 ? quotes.size() : what == 1 ? faultPlace : faultSort;
    }

    int readAt(int i, int what) {
        if (i < 0 || what < 0 || what > 2) {
            return BAD;
        }
        readRow();
        return i < quotes.size() ? quotes.get(i)[what] : NONE;
    }

    int take() {
        readRow();
        if (faultSort != NONE) {
            return NO;
        }
        lasts = readLasts;
        return quotes.size();
    }

    int add(int minute, int due, int firm, int price, int hundreds) {
        if (minute < 0 || minute > 1000 || due < minute || due > 2000 || noQuote(firm, price, hundreds)) {
            return BAD;
        }
        if (queue.size() == 12) {
            return FULL;
        }
        queue.add(new int[] {minute, due, firm, price, hundreds});
        return queue.size() - 1;
    }

    int drop() {
        int n = queue.size();
        queue.clear();
        return n;
    }

    int minutes(int quote) {
        if (quote < 0 || quote >= queue.size()) {
            return BAD;
        }
        int[] q = queue.get(quote);
        Wire w = new Wire();
        for (int v : text(q[2], q[3], q[4], false)) {
            w.bring(v);
        }
        if (w.sender.wheel == 1) {
            w.pulse(2);
        }
        int minutes = 0;
        while (minutes * wire.pace * 10 < w.pulses) {
            minutes++;
        }
        return minutes;
    }

    // The best order that was met, as {set, done}, and its quotes.
    int bestSet, bestDone;
    List<Integer> bestOrder;
    int[] took;

    /** All orders, in the order of their numbers, so that of like ones the first stays. */
    void plan(int from) {
        bestSet = 0;
        bestDone = from;
        bestOrder = new ArrayList<>();
        took = new int[queue.size()];
        for (int q = 0; q < queue.size(); q++) {
            took[q] = minutes(q);
        }
        tryOrders(new ArrayList<>(), 0, from);
    }

    void tryOrders(List<Integer> order, int set, int done) {
        int more = order.size() - bestOrder.size();
        if (more > 0 || more == 0 && (done < bestDone || done == bestDone && set < bestSet)) {
            bestSet = set;
            bestDone = done;
            bestOrder = new ArrayList<>(order);
        }
        for (int q = 0; q < queue.size(); q++) {
            int end = Math.max(done, queue.get(q)[0]) + took[q];
            if ((set >> q & 1) == 0 && end <= queue.get(q)[1]) {
                order.add(q);
                tryOrders(order, set | 1 << q, end);
                order.remove(order.size() - 1);
            }
        }
    }

    int most(int from, int what) {
        if (from < 0 || from > 1000 || what < 0 || what > 1) {
            return BAD;
        }
        plan(from);
        return what == 0 ? bestSet : bestDone;
    }

    int orderAt(int from, int i) {
        if (from < 0 || from > 1000 || i < 0) {
            return BAD;
        }
        plan(from);
        return i < bestOrder.size() ? bestOrder.get(i) : NONE;
    }

    int[] begun, ended;

    /** Minute by minute: when the wire is free, the first that has come and is not told is begun. */
    void runTape() {
        int n = queue.size();
        begun = new int[n];
        ended = new int[n];
        Arrays.fill(begun, Integer.MAX_VALUE);
        Arrays.fill(ended, Integer.MAX_VALUE);
        int free = 0;
        for (int minute = 0; minute <= 5000; minute++) {
            int next = NONE;
            for (int q = 0; q < n; q++) {
                if (begun[q] == Integer.MAX_VALUE && queue.get(q)[0] <= minute
                        && (next == NONE || queue.get(q)[0] < queue.get(next)[0])) {
                    next = q;
                }
            }
            if (minute >= free && next != NONE) {
                begun[next] = minute;
                ended[next] = minute + minutes(next);
                free = ended[next];
            }
        }
    }

    int tape(int minute, int what) {
        if (minute < 0 || minute > 3000 || what < 0 || what > 2) {
            return BAD;
        }
        runTape();
        int told = NONE;
        int waiting = 0;
        for (int q = 0; q < queue.size(); q++) {
            if (begun[q] <= minute && ended[q] > minute) {
                told = q;
            }
            if (queue.get(q)[0] <= minute && begun[q] > minute) {
                waiting++;
            }
        }
        return what == 0 ? told : what == 1 ? waiting : told == NONE ? 0 : begun[told] - queue.get(told)[0];
    }

    int price(int firm, int minute, int what) {
        if (firm < 0 || firm >= codes.size() || minute < 0 || minute > 3000 || what < 0 || what > 1) {
            return BAD;
        }
        runTape();
        int best = NONE;
        for (int q = 0; q < queue.size(); q++) {
            int when = what == 0 ? ended[q] : queue.get(q)[0];
            if (queue.get(q)[2] == firm && when <= minute
                    && (best == NONE || when >= (what == 0 ? ended[best] : queue.get(best)[0]))) {
                best = q;
            }
        }
        return best == NONE ? NONE : queue.get(best)[3];
    }

    List<Integer> repaired;
    int repairSlips;

    /** A row that came to be: how many signs are used, the shift back, the wheel, the row. */
    record Made(int used, int back, int flip, String made) {
    }

    /** Level by level of slips; all rows that can still become whole are kept. */
    void seekRepair() {
        repaired = new ArrayList<>();
        repairSlips = NONE;
        if (row.isEmpty() || codes.isEmpty()) {
            return;
        }
        Pattern whole = Pattern.compile("(?:(?:" + String.join("|", codeNames())
                + ")[0-9]{2,4}[a-g]?(?:m(?:1[0-9]{1,2}|[2-9][0-9]{0,2}))?_)+");
        Set<Made> level = new HashSet<>();
        level.add(new Made(0, 0, 0, ""));
        for (int slips = 0; slips <= 6; slips++) {
            Set<Made> all = new HashSet<>();
            List<Made> todo = new ArrayList<>(level);
            List<Integer> best = null;
            while (!todo.isEmpty()) {
                Made m = todo.remove(todo.size() - 1);
                if (!all.add(m)) {
                    continue;
                }
                if (m.used == row.size()) {
                    if (whole.matcher(m.made).matches() && (best == null || less(signs(m.made), best))) {
                        best = signs(m.made);
                    }
                    continue;
                }
                int printed = row.get(m.used);
                for (int wheel = 0; wheel < 2; wheel++) {
                    if (printed == 0 || wheelOf(printed) == wheel) {
                        int v = signOn(wheel ^ m.flip, (placeOf(printed) + m.back) % 28);
                        keep(todo, whole, new Made(m.used + 1, m.back, m.flip, m.made + CHARS.charAt(v)));
                    }
                }
            }
            if (best != null) {
                repairSlips = slips;
                repaired = best;
                return;
            }
            level = nextLevel(all, whole);
        }
    }

    Set<Made> nextLevel(Set<Made> all, Pattern whole) {
        List<Made> next = new ArrayList<>();
        for (Made m : all) {
            if (m.used < row.size()) {
                next.add(new Made(m.used, (m.back + 1) % 28, m.flip, m.made));
                next.add(new Made(m.used, m.back, 1 - m.flip, m.made));
                // Digits above 2 and eighths above 1 stand where these may, and are greater.
                for (char c : "_ABCDEFGHIJKLMNOPQRSTUVWXYZ012am".toCharArray()) {
                    keep(next, whole, new Made(m.used, m.back, m.flip, m.made + c));
                }
            }
        }
        return new HashSet<>(next);
    }

    static void keep(List<Made> list, Pattern whole, Made m) {
        Matcher matcher = whole.matcher(m.made);
        if (matcher.matches() || matcher.hitEnd()) {
            list.add(m);
        }
    }

    static boolean less(List<Integer> a, List<Integer> b) {
        for (int i = 0; i < a.size() && i < b.size(); i++) {
            if (!a.get(i).equals(b.get(i))) {
                return a.get(i) < b.get(i);
            }
        }
        return a.size() < b.size();
    }

    int repair() {
        seekRepair();
        return repairSlips;
    }

    int repairAt(int i) {
        if (i < 0) {
            return BAD;
        }
        seekRepair();
        return i < repaired.size() ? repaired.get(i) : NONE;
    }

    int mend() {
        seekRepair();
        if (repairSlips == NONE) {
            return NO;
        }
        if (repaired.size() > 40) {
            return FULL;
        }
        row = repaired;
        return row.size();
    }

    int cost(int k, int w) {
        if (k < 0 || k > 20 || w < 0 || w > 1000) {
            return BAD;
        }
        Wire t = wire.copy();
        for (int i = 0; i < row.size(); i++) {
            t.bring(row.get(i));
            if (k != 0 && (i + 1) % k == 0) {
                t.unison();
            }
        }
        if (t.pulses > 100001) {
            return FULL;
        }
        int c = t.pulses - wire.pulses;
        for (M m : t.ms) {
            c += m.alive ? w * wrongOf(m.ribbon, t.sender.ribbon) : 0;
        }
        return c;
    }

    int often(int w) {
        if (w < 0 || w > 1000) {
            return BAD;
        }
        int best = 0;
        for (int k = 0; k <= 20; k++) {
            if (cost(k, w) == FULL) {
                return FULL;
            }
            if (cost(k, w) < cost(best, w)) {
                best = k;
            }
        }
        return best;
    }

    int count(int what) {
        int[] all = {wire.ms.size(), wire.pulses, wire.told, row.size(), codes.size(), queue.size(), wire.pace, shorts ? 1 : 0};
        return what < 0 || what > 7 ? BAD : all[what];
    }

    long digest() {
        List<Integer> v = new ArrayList<>();
        for (int what = 0; what < 8; what++) {
            v.add(count(what));
        }
        List<M> all = new ArrayList<>(wire.ms);
        all.add(0, wire.sender);
        for (M m : all) {
            for (int a : m.about()) {
                v.add(a);
            }
            v.addAll(m.ribbon);
        }
        v.addAll(row);
        for (int f = 0; f < codes.size(); f++) {
            for (int letter : codes.get(f)) {
                v.add(letter);
            }
            v.add(lasts.get(f));
        }
        for (int[] q : queue) {
            for (int a : q) {
                v.add(a);
            }
        }
        long h = 263;
        for (int a : v) {
            h = 31 * h + a;
        }
        return h;
    }
}
