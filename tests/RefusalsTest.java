import java.util.List;
import java.util.function.Supplier;

/**
 * Terms, 3: of several refusals the first one told, and they change nothing. Every refused call is made on an object of
 * its own, which is compared afterwards, in all that can be asked of it, with a twin on which the call was not made.
 */
public final class RefusalsTest {
    private static final int MIN = Integer.MIN_VALUE;
    private static final int MAX = Integer.MAX_VALUE;
    private static final int NONE = BrokenThree.NONE, BAD = BrokenThree.BAD, STATE = BrokenThree.STATE, FULL = BrokenThree.FULL;
    private static final long NO = BrokenThree.NO;

    private static Supplier<BrokenThree> make;
    private static List<String> untouched;

    private interface Call {
        long on(BrokenThree s);
    }

    public static void main(String[] args) {
        on(BrokenThree::new);
        alwaysRefused(0);
        refusedByEmpty();
        on(RefusalsTest::some);
        alwaysRefused(4);
        refusedBySome();
        on(RefusalsTest::full);
        alwaysRefused(6);
        refusedByFull();
        asksChangeNothing();
        actChangesItsTrace();
        Due.end("RefusalsTest");
    }

    private static void on(Supplier<BrokenThree> maker) {
        make = maker;
        untouched = Probe.spoilt(make.get(), true);
    }

    private static void refused(String call, long want, Call c) {
        BrokenThree s = make.get();
        Due.is(call, c.on(s), want);
        Due.text("what differs after " + call, Probe.difference(Probe.spoilt(s, true), untouched), "");
    }

    // ---- objects: an empty one is new

    /** Four breakers, of which 1 is TOLD and 2 may not break; two pieces broken off; something of all. */
    private static BrokenThree some() {
        BrokenThree s = new BrokenThree();
        s.breaker(0, 1);
        Lay.feed(s, "long 5");
        s.image();
        s.yard();
        Lay.yard(s, "long 9;cuts 3;hard 1 x=2;price 3 x>4");
        s.breaker(6, 2);
        s.breaker(5, 9);
        s.breaker(4, 4);
        s.row(1, 0, 7);
        s.row(1, 2, 1);
        Lay.broken(s, 0, 5, 3);
        for (int length : new int[] {3, 4, 5, 9}) {
            s.box(length);
        }
        Lay.seen(s, 3, 2, 2);
        s.book(3, 4, 5, true);
        s.book(1, 2, 3, true);
        Lay.feed(s, "long 7");
        s.act(3, 2, 5);
        return s;
    }

    /** All that can be full is, and nothing is left to break. */
    private static BrokenThree full() {
        BrokenThree s = new BrokenThree();
        Lay.feed(s, "long 4");
        s.breaker(6, 3);
        s.image();
        s.yard();
        for (int i = 1; i < 4; i++) {
            Lay.yard(s, "cuts 1");
        }
        Lay.yard(s, "long 3;cuts 3;price 7 x>0");
        for (int kind = 1; kind <= 5; kind++) {
            s.breaker(kind, kind);
        }
        s.row(0, 1, 9);
        s.breaks(0, 0);
        s.breaks(0, 0);
        for (int i = 0; i < 10; i++) {
            s.box(i < 5 ? 2 : 9);
        }
        Lay.seen(s, 1, 1, 1, 1);
        for (int i = 0; i < 8; i++) {
            s.book(1, 1, 1, i < 6);
        }
        for (int i = 0; i < 100; i++) {
            s.feed("long 6;".charAt(i % 7));
        }
        s.act(4, 2, 5);
        return s;
    }

    // ---- refused, whatever there is

    private static void alwaysRefused(int breakers) {
        yardsRefused(breakers);
        breakersRefused(breakers);
        fractionsRefused(breakers);
        boxesRefused();
        rowsRefused(breakers);
        actsRefused(breakers);
    }

    private static void yardsRefused(int breakers) {
        Due.promise(2, "BAD, ahead of FULL");
        for (int sign : new int[] {-1, 128, MIN, MAX}) {
            refused("feed(" + sign + ")", BAD, s -> s.feed(sign));
        }
        Due.promise(4, "NONE: kind, ahead of all");
        for (int kind : new int[] {-1, 7, MIN, MAX}) {
            for (int v : new int[] {0, 9, 10, -1}) {
                refused("breaker(" + kind + ", " + v + ")", NONE, s -> s.breaker(kind, v));
            }
        }
        Due.promise(4, "BAD: v, ahead of FULL");
        for (int v : new int[] {-1, 10, MIN, MAX}) {
            for (int kind : new int[] {0, 6}) {
                refused("breaker(" + kind + ", " + v + ")", BAD, s -> s.breaker(kind, v));
            }
        }
        Due.promise(7, "NONE");
        for (int what : new int[] {-1, 4, MIN, MAX}) {
            refused("told(" + what + ")", NONE, s -> s.told(what));
        }
        Due.promise(8, "NONE");
        for (int k : new int[] {-1, 4, MIN, MAX}) {
            refused("piece(" + k + ")", NONE, s -> s.piece(k));
        }
        Due.promise(11, "NONE");
        for (int what : new int[] {-1, 5, MIN, MAX}) {
            refused("shape(" + what + ")", NONE, s -> s.shape(what));
        }
    }

    private static void breakersRefused(int breakers) {
        for (int b : new int[] {-1, breakers, MIN, MAX}) {
            Due.promise(5, "NONE: breaker");
            for (int what : new int[] {0, 1, 2, 10, 3, -1}) {
                refused("of(" + b + ", " + what + ")", NONE, s -> s.of(b, what));
            }
            Due.promise(6, "NONE: breaker, ahead of BAD and STATE");
            for (int n : new int[] {0, 10, -1}) {
                refused("row(" + b + ", 0, " + n + ")", NONE, s -> s.row(b, 0, n));
                refused("row(" + b + ", 4, " + n + ")", NONE, s -> s.row(b, 4, n));
            }
            Due.promise(9, "NONE, ahead of BAD and STATE");
            for (int draw : new int[] {0, 99, 100, -1}) {
                refused("breaks(" + b + ", " + draw + ")", NONE, s -> s.breaks(b, draw));
            }
        }
        for (int breaker = 0; breaker < breakers; breaker++) {
            int b = breaker;
            Due.promise(5, "NONE: what");
            for (int what : new int[] {-1, 3, 9, 26, MIN, MAX}) {
                refused("of(" + b + ", " + what + ")", NONE, s -> s.of(b, what));
            }
            Due.promise(6, "NONE: k, ahead of BAD and STATE");
            for (int k : new int[] {-1, 4, MIN, MAX}) {
                refused("row(" + b + ", " + k + ", 0)", NONE, s -> s.row(b, k, 0));
                refused("row(" + b + ", " + k + ", 10)", NONE, s -> s.row(b, k, 10));
            }
            Due.promise(6, "BAD, ahead of STATE");
            for (int n : new int[] {-1, 10, MIN, MAX}) {
                refused("row(" + b + ", 3, " + n + ")", BAD, s -> s.row(b, 3, n));
            }
            Due.promise(9, "BAD, ahead of STATE");
            for (int draw : new int[] {-1, 100, MIN, MAX}) {
                refused("breaks(" + b + ", " + draw + ")", BAD, s -> s.breaks(b, draw));
            }
        }
    }

    private static void fractionsRefused(int breakers) {
        for (int b : new int[] {-1, breakers, MIN, MAX}) {
            Due.promise(12, "NO: breaker");
            refused("likely(" + b + ", 0, 0, 0)", NO, s -> s.likely(b, 0, 0, 0));
            refused("likely(" + b + ", 7, 100, 2)", NO, s -> s.likely(b, 7, 100, 2));
            Due.promise(13, "NO: breaker");
            refused("mean(" + b + ", 0, 0)", NO, s -> s.mean(b, 0, 0));
            Due.promise(14, "NO: breaker");
            refused("costs(" + b + ", 0)", NO, s -> s.costs(b, 0));
            Due.promise(25, "NO: breaker");
            refused("chance(" + b + ", 0)", NO, s -> s.chance(b, 0));
        }
        for (int wrong : new int[] {-1, 2, MIN, MAX}) {
            Due.promise(12, "NO: part");
            refused("likely(0, 0, 0, " + wrong + ")", NO, s -> s.likely(0, 0, 0, wrong));
            Due.promise(13, "NO: part");
            refused("mean(0, 0, " + wrong + ")", NO, s -> s.mean(0, 0, wrong));
            Due.promise(14, "NO: part");
            refused("costs(0, " + wrong + ")", NO, s -> s.costs(0, wrong));
            Due.promise(25, "NO: part");
            refused("chance(0, " + wrong + ")", NO, s -> s.chance(0, wrong));
            Due.promise(15, "NO: part");
            refused("until(3, " + wrong + ")", NO, s -> s.until(3, wrong));
            Due.promise(16, "NO: part");
            refused("hidden(5, 3, 2, " + wrong + ")", NO, s -> s.hidden(5, 3, 2, wrong));
            Due.promise(19, "NO: part");
            refused("drawn(" + wrong + ")", NO, s -> s.drawn(wrong));
        }
        Due.promise(12, "NO: what, n");
        refused("likely(0, 7, 0, 0)", NO, s -> s.likely(0, 7, 0, 0));
        refused("likely(0, -1, 0, 0)", NO, s -> s.likely(0, -1, 0, 0));
        refused("likely(0, 3, 100, 0)", NO, s -> s.likely(0, 3, 100, 0));
        refused("likely(0, 0, -1, 1)", NO, s -> s.likely(0, 0, -1, 1));
        Due.promise(13, "NO: k");
        refused("mean(0, 4, 0)", NO, s -> s.mean(0, 4, 0));
        refused("mean(0, -1, 0)", NO, s -> s.mean(0, -1, 0));
        Due.promise(15, "NO: m");
        refused("until(0, 0)", NO, s -> s.until(0, 0));
        refused("until(17, 1)", NO, s -> s.until(17, 1));
        Due.promise(16, "NO: n, a, k");
        refused("hidden(2, 1, 1, 0)", NO, s -> s.hidden(2, 1, 1, 0));
        refused("hidden(11, 1, 1, 0)", NO, s -> s.hidden(11, 1, 1, 0));
        refused("hidden(5, 6, 1, 0)", NO, s -> s.hidden(5, 6, 1, 0));
        refused("hidden(5, 0, 1, 0)", NO, s -> s.hidden(5, 0, 1, 0));
        refused("hidden(5, 1, 0, 0)", NO, s -> s.hidden(5, 1, 0, 0));
        refused("hidden(5, 1, 7, 0)", NO, s -> s.hidden(5, 1, 7, 0));
    }

    private static void boxesRefused() {
        Due.promise(17, "BAD, ahead of FULL");
        for (int length : new int[] {0, -2, 100, MIN, MAX}) {
            refused("box(" + length + ")", BAD, s -> s.box(length));
        }
        Due.promise(20, "NONE: what");
        for (int what : new int[] {-1, 2, MIN, MAX}) {
            refused("none(" + what + ")", NONE, s -> s.none(what));
        }
        Due.promise(21, "BAD: m");
        for (int m : new int[] {0, -1, 1000, MIN, MAX}) {
            refused("stair(" + m + ")", BAD, s -> s.stair(m));
        }
        Due.promise(22, "NONE: k, ahead of BAD: p");
        for (int k : new int[] {-2, 6, MIN, MAX}) {
            refused("sawn(3, " + k + ")", NONE, s -> s.sawn(3, k));
            refused("sawn(2, " + k + ")", NONE, s -> s.sawn(2, k));
            refused("sawn(7, " + k + ")", NONE, s -> s.sawn(7, k));
        }
        Due.promise(22, "BAD: p");
        for (int p : new int[] {2, 7, MIN, MAX}) {
            refused("sawn(" + p + ", -1)", BAD, s -> s.sawn(p, -1));
            refused("sawn(" + p + ", 5)", BAD, s -> s.sawn(p, 5));
        }
    }

    private static void rowsRefused(int breakers) {
        Due.promise(23, "BAD, ahead of FULL");
        for (int length : new int[] {0, -2, 18, MIN, MAX}) {
            refused("see(" + length + ")", BAD, s -> s.see(length));
        }
        for (int b : new int[] {-1, breakers, MIN, MAX}) {
            Due.promise(24, "NONE");
            refused("orders(" + b + ")", NONE, s -> s.orders(b));
            Due.promise(26, "NONE");
            refused("lost(" + b + ")", NONE, s -> s.lost(b));
        }
        Due.promise(29, "BAD: one of the lengths, ahead of FULL");
        for (int wrong : new int[] {0, -2, 100, MIN, MAX}) {
            refused("book(" + wrong + ", 1, 1, true)", BAD, s -> s.book(wrong, 1, 1, true));
            refused("book(" + wrong + ", -1, 0, true)", BAD, s -> s.book(wrong, -1, 0, true));
        }
        for (int wrong : new int[] {0, -1, -2, 100, MIN, MAX}) {
            refused("book(1, " + wrong + ", 1, false)", BAD, s -> s.book(1, wrong, 1, false));
            refused("book(1, 1, " + wrong + ", true)", BAD, s -> s.book(1, 1, wrong, true));
        }
    }

    private static void actsRefused(int breakers) {
        Due.promise(32, "NONE");
        for (int i : new int[] {-1, 7, 20, MIN, MAX}) {
            refused("trace(" + i + ")", NONE, s -> s.trace(i));
        }
        Due.promise(33, "NONE: breaker, k");
        for (int b : new int[] {-1, breakers, MIN, MAX}) {
            refused("as(" + b + ", 0)", NONE, s -> s.as(b, 0));
            refused("as(" + b + ", 7)", NONE, s -> s.as(b, 7));
        }
        for (int k : new int[] {-1, 7, MIN, MAX}) {
            refused("as(0, " + k + ")", NONE, s -> s.as(0, k));
        }
        Due.promise(36, "NONE");
        for (int what : new int[] {-1, 7, MIN, MAX}) {
            refused("count(" + what + ")", NONE, s -> s.count(what));
        }
    }

    // ---- refused for what there is

    private static void refusedByEmpty() {
        Due.promise(3, "an empty tape ends too early");
        refused("yard()", -10, BrokenThree::yard);
        Due.promise(8, "NONE");
        refused("piece(1)", NONE, s -> s.piece(1));
        Due.promise(19, "NO: fewer than 3");
        refused("drawn(0)", NO, s -> s.drawn(0));
        refused("drawn(1)", NO, s -> s.drawn(1));
        Due.promise(28, "-5: none");
        refused("likeliest()", -5, BrokenThree::likeliest);
        Due.promise(30, "-5: none");
        refused("looked()", -5, BrokenThree::looked);
        Due.promise(31, "no such BREAKER");
        refused("act(0, 0, 5)", 0, s -> s.act(0, 0, 5));
        Due.promise(32, "NONE");
        refused("trace(0)", NONE, s -> s.trace(0));
        Due.promise(35, "STATE: there is none");
        refused("undo()", STATE, BrokenThree::undo);
    }

    private static void refusedBySome() {
        Due.promise(6, "STATE: another KIND");
        for (int b : new int[] {0, 2, 3}) {
            for (int k = 0; k < 4; k++) {
                int row = k;
                refused("row(" + b + ", " + k + ", 0)", STATE, s -> s.row(b, row, 0));
                refused("row(" + b + ", " + k + ", 9)", STATE, s -> s.row(b, row, 9));
            }
        }
        Due.promise(9, "STATE: there are none");
        refused("breaks(2, 0)", STATE, s -> s.breaks(2, 0));
        refused("breaks(2, 99)", STATE, s -> s.breaks(2, 99));
        refused("of(2, 10)", NONE, s -> s.of(2, 10));
        Due.promise(8, "NONE");
        refused("piece(3)", NONE, s -> s.piece(3));
        Due.promise(22, "-5: there is no such PIECE");
        refused("sawn(3, 3)", -5, s -> s.sawn(3, 3));
        Due.promise(33, "-6: it is of another KIND");
        refused("as(1, 4)", -6, s -> s.as(1, 4));
    }

    private static void refusedByFull() {
        Due.promise(2, "FULL");
        for (int sign : new int[] {0, 59, 127}) {
            refused("feed(" + sign + ")", FULL, s -> s.feed(sign));
        }
        Due.promise(3, "FULL (ahead of all; THE TAPE stays)");
        refused("yard()", FULL, BrokenThree::yard);
        Due.promise(4, "FULL");
        for (int kind = 0; kind <= 6; kind++) {
            int k = kind;
            refused("breaker(" + kind + ", 0)", FULL, s -> s.breaker(k, 0));
            refused("breaker(" + kind + ", 9)", FULL, s -> s.breaker(k, 9));
        }
        Due.promise(9, "STATE: there are none");
        for (int breaker = 0; breaker < 6; breaker++) {
            int b = breaker;
            refused("breaks(" + b + ", 0)", STATE, s -> s.breaks(b, 0));
            refused("breaks(" + b + ", 99)", STATE, s -> s.breaks(b, 99));
        }
        Due.promise(17, "FULL");
        refused("box(1)", FULL, s -> s.box(1));
        refused("box(99)", FULL, s -> s.box(99));
        Due.promise(22, "-5: LENGTH is less than p");
        refused("sawn(4, -1)", -5, s -> s.sawn(4, -1));
        refused("sawn(6, 5)", -5, s -> s.sawn(6, 5));
        Due.promise(23, "FULL");
        refused("see(1)", FULL, s -> s.see(1));
        refused("see(17)", FULL, s -> s.see(17));
        Due.promise(29, "FULL");
        refused("book(1, 1, 1, true)", FULL, s -> s.book(1, 1, 1, true));
        refused("book(99, 99, 99, false)", FULL, s -> s.book(99, 99, 99, false));
    }

    // ---- what is asked

    private static void asked(String call, Call c) {
        BrokenThree s = make.get();
        long once = c.on(s);
        Due.is(call + ", asked again", c.on(s), once);
        Due.text("what differs after " + call, Probe.difference(Probe.spoilt(s, true), untouched), "");
    }

    private static void asksChangeNothing() {
        on(RefusalsTest::some);
        for (int breaker = 0; breaker < 4; breaker++) {
            int b = breaker;
            Due.promise(5, "asking changes nothing");
            asked("of(" + b + ", 2)", s -> s.of(b, 2));
            Due.promise(12, "asked, and changes nothing");
            for (int what = 0; what <= 6; what++) {
                int w = what;
                asked("likely(" + b + ", " + w + ", 4, 1)", s -> s.likely(b, w, 4, 1));
            }
            Due.promise(13, "asked, and changes nothing");
            asked("mean(" + b + ", 1, 0)", s -> s.mean(b, 1, 0));
            Due.promise(14, "asked, and changes nothing");
            asked("costs(" + b + ", 0)", s -> s.costs(b, 0));
            Due.promise(24, "asked, and changes nothing");
            asked("orders(" + b + ")", s -> s.orders(b));
            Due.promise(25, "asked, and changes nothing");
            asked("chance(" + b + ", 0)", s -> s.chance(b, 0));
            Due.promise(26, "asked, and changes nothing");
            asked("lost(" + b + ")", s -> s.lost(b));
        }
        Due.promise(15, "asked, and changes nothing");
        asked("until(2, 0)", s -> s.until(2, 0));
        Due.promise(16, "asked, and changes nothing");
        asked("hidden(7, 3, 4, 0)", s -> s.hidden(7, 3, 4, 0));
        Due.promise(18, "asked, and changes nothing");
        asked("triangles()", BrokenThree::triangles);
        asked("drawn(1)", s -> s.drawn(1));
        asked("none(0)", s -> s.none(0));
        asked("none(1)", s -> s.none(1));
        asked("stair(99)", s -> s.stair(99));
        asked("sawn(5, 1)", s -> s.sawn(5, 1));
        Due.promise(27, "asked, and changes nothing");
        asked("who()", BrokenThree::who);
        asked("likeliest()", BrokenThree::likeliest);
        asked("looked()", BrokenThree::looked);
        Due.promise(33, "asked, and changes nothing");
        asked("as(1, 3)", s -> s.as(1, 3));
        asked("trace(3)", s -> s.trace(3));
    }

    private static void actChangesItsTrace() {
        Due.promise(31, "an ACT changes nothing but its TRACE");
        List<String> due = Probe.spoilt(some(), false);
        for (int breaker = -1; breaker <= 4; breaker++) {
            for (int act = -1; act <= 3; act++) {
                BrokenThree s = some();
                s.act(breaker, act, 9);
                Due.text("what differs after act(" + breaker + ", " + act + ", 9)",
                        Probe.difference(Probe.spoilt(s, false), due), "");
            }
        }
    }
}
