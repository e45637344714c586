/** Promises 31 to 36: acts, the image, and counts. */
public final class ActPromisesTest {
    public static void main(String[] args) {
        act();
        trace();
        as();
        imageKeepsAll();
        imageRefused();
        count();
        Due.end("ActPromisesTest");
    }

    private static void acts(BrokenThree s, int breaker, int act, int x, int want, int... bodies) {
        Due.promise(31, "act");
        Due.is("act(" + breaker + ", " + act + ", " + x + ")", s.act(breaker, act, x), want);
        Due.promise(32, "trace, behind act(" + breaker + ", " + act + ", " + x + ")");
        Due.is("count(6)", s.count(6), bodies.length);
        for (int i = 0; i < bodies.length; i++) {
            Due.is("trace(" + i + ")", s.trace(i), bodies[i]);
        }
        Due.is("trace(" + bodies.length + ")", s.trace(bodies.length), BrokenThree.NONE);
        Due.is("trace(-1)", s.trace(-1), BrokenThree.NONE);
    }

    private static void act() {
        BrokenThree s = new BrokenThree();
        int[] kinds = {1, 2, 4, 5, 6, 0};
        for (int kind : kinds) {
            s.breaker(kind, 7);
        }
        // BREAKER 5, v 7
        acts(s, 5, 0, 10, 15, 1);
        acts(s, 5, 1, 10, 8, 2, 1);
        acts(s, 5, 2, 10, 16, 3, 2, 1);
        // LONGEST 0
        acts(s, 0, 0, 10, 30, 11, 1);
        acts(s, 0, 1, 10, 23, 2, 11, 1);
        acts(s, 0, 2, 10, 46, 3, 2, 11, 1);
        // SHORTEST 1
        acts(s, 1, 0, 10, 11, 1);
        acts(s, 1, 1, 10, -4, 21, 2, 1);
        acts(s, 1, 2, 10, -8, 3, 21, 2, 1);
        // HALVING 2: bends(9) is 29, bends(2) is 8
        acts(s, 2, 0, 9, 29, 11, 1);
        acts(s, 2, 1, 9, 22, 2, 11, 1);
        acts(s, 2, 2, 10, 44 + 8, 41, 3, 2, 11, 1, 11, 1);
        // THIN 3: bends(10) is 13 ^ 3
        acts(s, 3, 0, 10, 14, 51, 1);
        acts(s, 3, 1, 10, -7, 21, 2, 51, 1);
        acts(s, 3, 2, 10, -14, 3, 21, 2, 51, 1);
        // TOLD 4
        acts(s, 4, 0, 10, 14, 1);
        acts(s, 4, 1, 10, 14, 61, 2, 1);
        acts(s, 4, 2, 10, 28 ^ 7, 31, 3, 61, 2, 1);
        // wrapping
        acts(s, 5, 0, Integer.MAX_VALUE, Integer.MIN_VALUE + 4, 1);
        acts(s, 0, 0, 1 << 30, 3 << 30, 11, 1);
        acts(s, 2, 2, Integer.MIN_VALUE, ((Integer.MIN_VALUE - 1) * 3 + 2 - 7) * 2 + 8, 41, 3, 2, 11, 1, 11, 1);
        // LEFT has two bodies of BREAKER's
        BrokenThree left = new BrokenThree();
        left.breaker(3, 2);
        acts(left, 0, 0, 5, 5, 1);
        acts(left, 0, 1, 5, 3, 2, 1);
        acts(left, 0, 2, 5, 6 ^ 7, 31, 3, 2, 1);
        // none such
        acts(s, 6, 0, 3, 0);
        acts(s, 5, 0, 10, 15, 1);
        acts(s, -1, 0, 3, 0);
        acts(s, 5, 0, 10, 15, 1);
        acts(s, 0, 3, 3, 0);
        acts(s, 5, 0, 10, 15, 1);
        acts(s, 0, -1, 3, 0);
    }

    private static void trace() {
        Due.promise(32, "trace");
        BrokenThree s = new BrokenThree();
        Due.is("trace(0)", s.trace(0), BrokenThree.NONE);
        s.breaker(0, 1);
        s.act(0, 2, 1);
        Due.is("trace(2)", s.trace(2), 1);
        Due.is("trace(20)", s.trace(20), BrokenThree.NONE);
        Due.is("trace(max)", s.trace(Integer.MAX_VALUE), BrokenThree.NONE);
        s.image();
        s.act(0, 1, 1);
        s.undo();
        Due.is("trace(0), no image's", s.trace(0), 2);
        Due.is("count(6), no image's", s.count(6), 2);
    }

    private static void as() {
        Due.promise(33, "as");
        // which kinds each kind can be taken for, as bits
        int[] can = {1, 1 + 2, 1 + 4, 1 + 8, 1 + 2 + 16, 1 + 4 + 32, 1 + 8 + 64};
        for (int kind = 0; kind < 7; kind++) {
            BrokenThree s = new BrokenThree();
            s.breaker(kind, 9);
            for (int k = 0; k < 7; k++) {
                Due.is("as(0, " + k + ") of kind " + kind, s.as(0, k), (can[kind] >> k & 1) == 1 ? 9 : -6);
            }
            Due.is("as(0, 7)", s.as(0, 7), BrokenThree.NONE);
            Due.is("as(0, -1)", s.as(0, -1), BrokenThree.NONE);
            Due.is("as(1, 0)", s.as(1, 0), BrokenThree.NONE);
            Due.is("as(-1, 0)", s.as(-1, 0), BrokenThree.NONE);
        }
    }

    private static void imageKeepsAll() {
        Due.promise(34, "image");
        BrokenThree s = new BrokenThree();
        s.breaker(6, 4);
        s.breaker(0, 5);
        s.row(0, 1, 2);
        Lay.yard(s, "long 7;cuts 1;hard 1 x=1;price 3 x=2");
        s.breaks(1, 0);
        Lay.feed(s, "long ");
        s.box(3);
        s.box(4);
        s.box(5);
        s.see(2);
        s.see(5);
        s.book(1, 1, 1, false);
        Due.is("image()", s.image(), 2);
        spoil(s);
        Due.promise(35, "undo");
        Due.is("undo()", s.undo(), 2);
        restored(s);
        spoil(s);
        Due.is("undo(), again", s.undo(), 2);
        restored(s);
        Due.is("breaker(6, 0)", s.breaker(6, 0), 2);
        Due.is("row(2, 1, 0), of a new one", s.row(2, 1, 0), 0);
        s.feed('9');
        Due.is("yard()", s.yard(), 1);
        Due.is("told(0)", s.told(0), 9);
        Due.promise(34, "image, taken anew");
        Due.is("image()", s.image(), 3);
        s.breaker(0, 0);
        Due.is("undo()", s.undo(), 3);
        Due.is("told(0)", s.told(0), 9);
    }

    private static void spoil(BrokenThree s) {
        s.row(0, 1, 9);
        s.breaker(6, 9);
        s.row(2, 1, 8);
        s.yard();
        Lay.yard(s, "long 17;cuts 3;hard 1 x=5");
        s.breaks(1, 3);
        Lay.feed(s, "cuts");
        s.box(-1);
        s.box(9);
        s.see(-1);
        s.see(9);
        s.see(9);
        s.book(-1, 0, 0, true);
        s.book(3, 3, 3, true);
    }

    private static void restored(BrokenThree s) {
        int[] counts = {2, 1, 3, 2, 1, 5};
        for (int what = 0; what < counts.length; what++) {
            Due.is("count(" + what + ")", s.count(what), counts[what]);
        }
        int[] told = {7, 1, 2, 3};
        for (int what = 0; what < told.length; what++) {
            Due.is("told(" + what + ")", s.told(what), told[what]);
        }
        Due.is("piece(0)", s.piece(0), 2);
        Due.is("of(0, 0)", s.of(0, 0), 6);
        Due.is("of(0, 1)", s.of(0, 1), 4);
        Due.is("of(1, 2)", s.of(1, 2), 4);
        Due.is("row(0, 1, 2)", s.row(0, 1, 2), 2);
        Due.is("triangles()", s.triangles(), 1);
        Due.is("orders(1)", s.orders(1), 1);
        Due.is("looked()", s.looked(), 0);
    }

    private static void imageRefused() {
        Due.promise(35, "undo");
        BrokenThree s = new BrokenThree();
        s.breaker(0, 0);
        Due.is("undo()", s.undo(), BrokenThree.STATE);
        Due.is("count(0)", s.count(0), 1);
        BrokenThree empty = new BrokenThree();
        Due.is("image()", empty.image(), 0);
        empty.breaker(0, 0);
        Due.is("undo()", empty.undo(), 0);
        Due.is("count(0)", empty.count(0), 0);
        Due.is("told(0)", empty.told(0), 12);
    }

    private static void count() {
        Due.promise(36, "count");
        BrokenThree s = new BrokenThree();
        s.breaker(4, 0);
        s.breaker(0, 0);
        Lay.yard(s, "long 9");
        s.box(1);
        s.box(1);
        s.box(1);
        s.see(4);
        s.see(4);
        s.see(4);
        s.see(4);
        s.book(1, 1, 1, true);
        s.book(1, 1, 1, true);
        Lay.feed(s, "abcdef");
        s.act(0, 2, 1);
        int[] due = {2, 1, 3, 4, 2, 6, 7};
        for (int what = 0; what < due.length; what++) {
            Due.is("count(" + what + ")", s.count(what), due[what]);
        }
        Due.is("count(7)", s.count(7), BrokenThree.NONE);
        Due.is("count(-1)", s.count(-1), BrokenThree.NONE);
    }
}
