/** Promises 38 and 39: counts, and the digest held against one that is made of other calls' answers. */
public final class CountTest {
    private static final Check C = new Check();
    private static final int NONE = TickerHouse.NONE, BAD = TickerHouse.BAD;

    public static void main(String[] args) {
        counts();
        digestOfNew();
        digestOfAll();
        C.end();
    }

    private static void counts() {
        TickerHouse x = new TickerHouse();
        C.due("what", x.count(-1), BAD);
        C.due("what", x.count(8), BAD);
        int[] atFirst = {0, 0, 0, 0, 0, 0, 5, 0};
        for (int what = 0; what < 8; what++) {
            C.due("at first: count(" + what + ")", x.count(what), atFirst[what]);
        }
        fill(x);
        int[] then = {2, 12, 3, 6, 4, 2, 7, 1};
        for (int what = 0; what < 8; what++) {
            C.due("then: count(" + what + ")", x.count(what), then[what]);
        }
    }

    private static void fill(TickerHouse x) {
        x.machine(0, 0, 0);
        x.machine(500, 1, 10);
        x.line(900, 40, 7);
        x.slip(0, 1);
        x.slip(1, 2);
        x.slip(1, 2);
        x.firm(1, 0, 0, 0);
        x.firm(1, 2, 0, 0);
        x.firm(1, 2, 3, 0);
        x.firm(1, 2, 3, 4);
        x.shorts(true);
        x.write(1, 804, 1);
        x.clear();
        x.write(1, 804, 1);
        x.write(0, 0, 1);
        x.clear();
        for (int i = 0; i < 6; i++) {
            x.sign(i * 10);
        }
        x.bring(3);
        x.bring(30);
        x.alive(1, false);
        for (int i = 0; i < 5; i++) {
            x.pulse(0);
        }
        x.add(5, 9, 1, 77, 3);
        x.add(4, 2000, 0, 79999, 999);
    }

    private static long mix(long h, long... all) {
        long mixed = h;
        for (long v : all) {
            mixed = 31 * mixed + v;
        }
        return mixed;
    }

    private static void digestOfNew() {
        C.due("new", new TickerHouse().digest(), mix(263, 0, 0, 0, 0, 0, 0, 5, 0, 0, 0, 0, 0, 0, 0, 1));
    }

    private static void digestOfAll() {
        TickerHouse x = new TickerHouse();
        fill(x);
        long h = 263;
        for (int what = 0; what < 8; what++) {
            h = mix(h, x.count(what));
        }
        for (int m = NONE; m < 2; m++) {
            for (int what = 0; what < 7; what++) {
                h = mix(h, x.about(m, what));
            }
            for (int i = 0; i < x.about(m, 4); i++) {
                h = mix(h, x.ribbon(m, i));
            }
        }
        h = mix(h, 0, 10, 20, 30, 40, 50);
        h = mix(h, 1, 0, 0, 0, 0, 1, 2, 0, 0, 804, 1, 2, 3, 0, NONE, 1, 2, 3, 4, NONE);
        h = mix(h, 5, 9, 1, 77, 3, 4, 2000, 0, 79999, 999);
        C.due("of all", x.digest(), h);
        C.due("it changes nothing", x.digest(), h);
        x.drop();
        C.holds("the queue is in it", x.digest() != h);
    }
}
