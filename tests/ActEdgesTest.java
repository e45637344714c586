/** Promises 31 to 36, sentence by sentence: acts, the image and counts at the edges that the document names. */
public final class ActEdgesTest {
    private static final int MIN = Integer.MIN_VALUE;
    private static final int MAX = Integer.MAX_VALUE;

    public static void main(String[] args) {
        actsTaken();
        noSuchAct();
        bendsWrap();
        breaksWrap();
        tellsWrap();
        bodiesOfAllKinds();
        traceTaken();
        traceOfLatest();
        asTaken();
        asOneUnder();
        noImage();
        imageOfNothing();
        imageOfAll();
        imageOfTape();
        imageTwice();
        undoTwice();
        traceIsNoPart();
        imageChangesNothing();
        countWhat();
        countEmptyAndFull();
        Due.end("ActEdgesTest");
    }

    /** A breaker of a kind and v, its number being 5. */
    private static BrokenThree sixth(int kind, int v) {
        BrokenThree s = Lay.stick("long 5", 0, 1, 2, 3, 4);
        s.breaker(kind, v);
        return s;
    }

    private static void actIs(int kind, int v, int act, int x, int want) {
        Due.is("act(5, " + act + ", " + x + ") of kind " + kind + " and v " + v, sixth(kind, v).act(5, act, x), want);
    }

    private static void actsTaken() {
        Due.promise(31, "0 bends, 1 breaks, 2 tells");
        BrokenThree s = new BrokenThree();
        s.breaker(0, 4);
        Due.is("act(0, 0, 7)", s.act(0, 0, 7), 7);
        Due.is("act(0, 1, 7)", s.act(0, 1, 7), 3);
        Due.is("act(0, 2, 7)", s.act(0, 2, 7), 6);
        Due.is("act(0, 0, 0)", s.act(0, 0, 0), 0);
        Due.is("count(6), of an act that answers 0", s.count(6), 1);
        Due.is("act(0, 0, -7)", s.act(0, 0, -7), -7);
        actIs(0, 9, 0, 0, 5);
        actIs(0, 9, 1, 0, -4);
        actIs(0, 9, 2, 0, -8);
    }

    private static void noSuchAct() {
        Due.promise(31, "0, and no TRACE then: no such BREAKER, act");
        BrokenThree s = new BrokenThree();
        Due.is("act(0, 0, 5) by nobody", s.act(0, 0, 5), 0);
        Due.is("count(6)", s.count(6), 0);
        s = sixth(4, 3);
        int[][] wrong = {{-1, 0}, {6, 0}, {MIN, 0}, {MAX, 2}, {5, -1}, {5, 3}, {5, MIN}, {5, MAX}, {6, 3}, {-1, -1}};
        for (int[] w : wrong) {
            s.act(5, 2, 1);
            Due.is("count(6)", s.count(6), 7);
            Due.is("act(" + w[0] + ", " + w[1] + ", 5)", s.act(w[0], w[1], 5), 0);
            Due.is("count(6), of none", s.count(6), 0);
            Due.is("trace(0), of none", s.trace(0), BrokenThree.NONE);
        }
        Due.is("count(0)", s.count(0), 6);
    }

    private static void bendsWrap() {
        Due.promise(31, "ints, wrapping: x + i, x * 3, ^ i");
        actIs(0, 0, 0, MAX, MIN + 4);
        actIs(0, 0, 0, MAX - 5, MAX);
        actIs(0, 0, 0, MIN, MIN + 5);
        actIs(1, 0, 0, 715827882, 2147483646 + 5);
        actIs(1, 0, 0, 715827883, MIN + 1 + 5);
        actIs(1, 0, 0, MAX, MAX - 2 + 5);
        actIs(1, 0, 0, MIN, MIN + 5);
        actIs(4, 0, 0, -715827883, MAX + 5);
        actIs(5, 0, 0, MAX, MIN + 4 ^ 5);
        actIs(5, 0, 0, -5, 5);
        actIs(6, 0, 0, MAX, MIN + 4);
    }

    private static void breaksWrap() {
        Due.promise(31, "ints, wrapping: - v, the sign, + v");
        actIs(0, 9, 1, MIN, MIN + 5 - 9);
        actIs(0, 5, 1, MIN, MIN);
        actIs(0, 6, 1, MIN, MAX);
        actIs(2, 5, 1, MIN, MIN);
        actIs(2, 6, 1, MIN, -MAX);
        actIs(2, 5, 1, 3, -3);
        actIs(6, 9, 1, MAX, MIN + 4);
        actIs(6, 9, 1, MIN, MIN + 5);
        actIs(5, 9, 1, MIN, -((MIN + 5 ^ 5) - 9));
        actIs(1, 9, 1, MIN, MIN + 5 - 9);
    }

    private static void tellsWrap() {
        Due.promise(31, "ints, wrapping: * 2, ^ 7, x - 1, and a sum");
        actIs(0, 5, 2, 1 << 30, MIN);
        actIs(0, 5, 2, MIN, 0);
        actIs(0, 5, 2, MAX, -2);
        actIs(3, 5, 2, 1 << 30, MIN ^ 7);
        actIs(3, 5, 2, MAX, -2 ^ 7);
        actIs(6, 5, 2, MAX, (MIN + 4) * 2 ^ 7);
        // bends(2) is 11; super.tells(x - 1) is (3 * x - 3 + 5 - v) * 2
        actIs(4, 2, 2, MIN, (MIN * 3 - 3 + 5 - 2) * 2 + 11);
        actIs(4, 2, 2, 357913942, (3 * 357913942 - 3 + 5 - 2) * 2 + 11);
        actIs(4, 9, 2, MAX, (MAX * 3 - 3 + 5 - 9) * 2 + 11);
        actIs(4, 9, 2, 0, (-3 + 5 - 9) * 2 + 11);
    }

    private static void tracedIs(int kind, int act, int... bodies) {
        BrokenThree s = sixth(kind, 2);
        s.act(5, act, 1);
        Due.is("count(6) of kind " + kind + ", act " + act, s.count(6), bodies.length);
        for (int i = 0; i < bodies.length; i++) {
            Due.is("trace(" + i + ") of kind " + kind + ", act " + act, s.trace(i), bodies[i]);
        }
        Due.is("trace(" + bodies.length + ") of kind " + kind + ", act " + act, s.trace(bodies.length), BrokenThree.NONE);
    }

    private static void bodiesOfAllKinds() {
        Due.promise(32, "the numbers of the bodies that ran in the latest act(), as they began");
        int[][] bends = {{1}, {11, 1}, {1}, {1}, {11, 1}, {51, 1}, {1}};
        int[][] breaks = {{2, 1}, {2, 11, 1}, {21, 2, 1}, {2, 1}, {2, 11, 1}, {21, 2, 51, 1}, {61, 2, 1}};
        int[][] tells = {{3, 2, 1}, {3, 2, 11, 1}, {3, 21, 2, 1}, {31, 3, 2, 1}, {41, 3, 2, 11, 1, 11, 1}, {3, 21, 2, 51, 1},
            {31, 3, 61, 2, 1}};
        for (int kind = 0; kind <= 6; kind++) {
            tracedIs(kind, 0, bends[kind]);
            tracedIs(kind, 1, breaks[kind]);
            tracedIs(kind, 2, tells[kind]);
        }
    }

    private static void traceTaken() {
        Due.promise(32, "THE TRACE's i-th body. NONE");
        BrokenThree s = new BrokenThree();
        for (int i : new int[] {-1, 0, 1, 19, 20, MIN, MAX}) {
            Due.is("trace(" + i + "), new", s.trace(i), BrokenThree.NONE);
        }
        s = sixth(4, 0);
        s.act(5, 2, 1);
        Due.is("trace(6)", s.trace(6), 1);
        for (int i : new int[] {-1, 7, 8, 19, 20, 21, MIN, MAX}) {
            Due.is("trace(" + i + ")", s.trace(i), BrokenThree.NONE);
        }
    }

    private static void traceOfLatest() {
        Due.promise(32, "in the latest act()");
        BrokenThree s = sixth(4, 0);
        s.act(5, 2, 1);
        s.act(0, 0, 1);
        Due.is("count(6)", s.count(6), 1);
        Due.is("trace(0)", s.trace(0), 1);
        Due.is("trace(1)", s.trace(1), BrokenThree.NONE);
        s.act(2, 1, 1);
        Due.is("count(6)", s.count(6), 3);
        Due.is("trace(0)", s.trace(0), 21);
        Due.is("trace(2)", s.trace(2), 1);
        for (int i = 0; i < 10; i++) {
            s.act(5, 2, i);
        }
        Due.is("count(6), of one act", s.count(6), 7);
        Due.is("trace(0)", s.trace(0), 41);
        s.breaks(0, 0);
        s.whole();
        s.breaker(0, 0);
        Due.is("count(6), after other calls", s.count(6), 7);
    }

    private static void asTaken() {
        Due.promise(33, "NONE: breaker, k (0 .. 6)");
        BrokenThree s = new BrokenThree();
        Due.is("as(0, 0) of nobody", s.as(0, 0), BrokenThree.NONE);
        s = sixth(6, 9);
        for (int wrong : new int[] {-1, 7, MIN, MAX}) {
            Due.is("as(5, " + wrong + ")", s.as(5, wrong), BrokenThree.NONE);
        }
        for (int wrong : new int[] {-1, 6, MIN, MAX}) {
            Due.is("as(" + wrong + ", 0)", s.as(wrong, 0), BrokenThree.NONE);
            Due.is("as(" + wrong + ", 1)", s.as(wrong, 1), BrokenThree.NONE);
        }
        Due.is("as(5, 0)", s.as(5, 0), 9);
        Due.is("as(5, 6)", s.as(5, 6), 9);
        Due.is("as(5, 5)", s.as(5, 5), -6);
    }

    private static void asOneUnder() {
        Due.promise(33, "taken for a KIND k, or one under that: its v; -6: it is of another KIND");
        String[] can = {"0", "01", "02", "03", "014", "025", "036"};
        for (int kind = 0; kind <= 6; kind++) {
            for (int v : new int[] {0, 9}) {
                BrokenThree s = sixth(kind, v);
                for (int k = 0; k <= 6; k++) {
                    Due.is("as(5, " + k + ") of kind " + kind, s.as(5, k), can[kind].indexOf('0' + k) >= 0 ? v : -6);
                }
            }
        }
    }

    private static void noImage() {
        Due.promise(35, "STATE: there is none");
        BrokenThree s = new BrokenThree();
        Due.is("undo()", s.undo(), BrokenThree.STATE);
        Due.is("undo(), again", s.undo(), BrokenThree.STATE);
        Due.is("image()", s.image(), 0);
        Due.is("undo()", s.undo(), 0);
    }

    private static void imageOfNothing() {
        Due.promise(34, "how many BREAKERS there are: none");
        BrokenThree s = new BrokenThree();
        Due.is("image()", s.image(), 0);
        full(s);
        Due.promise(35, "all is as THE IMAGE: empty");
        Due.is("undo()", s.undo(), 0);
        for (int what = 0; what <= 5; what++) {
            Due.is("count(" + what + ")", s.count(what), 0);
        }
        Due.text("pieces", Lay.pieces(s), "12");
        Due.is("told(1)", s.told(1), 2);
        Due.is("told(3)", s.told(3), 0);
        Due.is("of(0, 0)", s.of(0, 0), BrokenThree.NONE);
        Due.is("triangles()", s.triangles(), 0);
        Due.is("looked()", s.looked(), -5);
        Due.is("breaker(6, 0)", s.breaker(6, 0), 0);
        Due.is("row(0, 0, 0)", s.row(0, 0, 0), 0);
        Due.is("row(0, 3, 0)", s.row(0, 3, 0), 0);
        Lay.mayIs(s, 0, "1,2,3,4,5,6,7,8,9,10,11");
        Due.is("costs(0, 0)", s.costs(0, 0), 0);
        Due.is("yard(), the first", Lay.yard(s, "long 3"), 0);
    }

    /** Everything is filled up. */
    private static void full(BrokenThree s) {
        while (s.count(0) < 6 && s.breaker(6 - s.count(0) % 3, 8) >= 0) {
            s.row(s.count(0) - 1, 0, 4);
            s.row(s.count(0) - 1, 3, 5);
        }
        for (int i = 0; i < 5 && s.count(1) < 5; i++) {
            Lay.yard(s, "long 7;cuts 3;hard 1 x=1;price 9 x>0");
        }
        s.breaks(0, 1);
        for (int i = 0; i < 10; i++) {
            s.box(i < 5 ? 9 : 20);
        }
        for (int i = 1; i <= 4; i++) {
            s.see(i < 4 ? 2 : 1);
        }
        for (int i = 0; i < 8; i++) {
            s.book(9, 9, 9 + i * 2, i < 4);
        }
        Lay.feed(s, "hard 5 x=1&");
    }

    private static void imageOfAll() {
        Due.promise(34, "all that there is: the full");
        BrokenThree s = new BrokenThree();
        full(s);
        Due.is("image()", s.image(), 6);
        Lay.seen(s, 5, 5, 5, 5);
        s.box(-1);
        s.book(-1, 0, 0, true);
        for (int i = 0; i < 10; i++) {
            s.box(7);
            s.book(1, 2, 3, i < 2);
        }
        s.feed('x');
        s.whole();
        for (int b = 0; b < 6; b++) {
            s.row(b, 0, 0);
        }
        Due.promise(35, "all is as THE IMAGE: full");
        Due.is("undo()", s.undo(), 6);
        int[] due = {6, 5, 10, 4, 8, 11};
        for (int what = 0; what < due.length; what++) {
            Due.is("count(" + what + ")", s.count(what), due[what]);
        }
        // 9 9 20 alone do not close
        Due.is("triangles()", s.triangles(), 120 - 10 * 5);
        Due.is("none(1)", s.none(1), 1 + 2 + 32);
        // 9 9 17 closes, and is the fifth
        Due.is("looked()", s.looked(), 4);
        Due.is("orders(2) of 2 2 2 1, halving at 4, 2, 6", s.orders(2), 1);
        Due.text("pieces", Lay.pieces(s), "3,4");
        Due.is("told(3)", s.told(3), 9);
        Due.is("told(1)", s.told(1), 3);
        for (int b = 0; b < 6; b++) {
            Due.is("of(" + b + ", 0)", s.of(b, 0), 6 - b % 3);
            Due.is("of(" + b + ", 1)", s.of(b, 1), 8);
            Due.is("row(" + b + ", 0, 1)", s.row(b, 0, 1), b % 3 == 0 ? 4 : BrokenThree.STATE);
            Due.is("row(" + b + ", 3, 1)", s.row(b, 3, 1), b % 3 == 0 ? 5 : BrokenThree.STATE);
        }
        Due.is("breaker(0, 0), full", s.breaker(0, 0), BrokenThree.FULL);
        Due.is("yard(), full", s.yard(), BrokenThree.FULL);
        Due.is("box(1), full", s.box(1), BrokenThree.FULL);
        Due.is("see(1), full", s.see(1), BrokenThree.FULL);
        Due.is("book(1, 1, 1, true), full", s.book(1, 1, 1, true), BrokenThree.FULL);
    }

    private static void imageOfTape() {
        Due.promise(34, "all that there is: the signs of THE TAPE");
        BrokenThree s = Lay.stick("long 6");
        Lay.feed(s, "long 9;cuts 3");
        s.image();
        Due.is("yard()", s.yard(), 1);
        Lay.feed(s, "cuts 1;cuts 1;cuts 1");
        s.undo();
        Due.is("count(5)", s.count(5), 13);
        Due.is("told(0)", s.told(0), 6);
        Due.is("yard()", s.yard(), 1);
        Due.is("told(0)", s.told(0), 9);
        Due.is("told(1)", s.told(1), 3);
        Due.promise(34, "an empty tape");
        s.image();
        Lay.feed(s, "long 2");
        s.undo();
        Due.is("count(5)", s.count(5), 0);
        Due.is("yard()", s.yard(), -10);
    }

    private static void imageTwice() {
        Due.promise(34, "THE IMAGE is taken: the latest one");
        BrokenThree s = new BrokenThree();
        for (int i = 0; i <= 6; i++) {
            Due.is("image()", s.image(), i);
            s.box(1);
            if (i < 6) {
                s.breaker(i, i);
            }
        }
        Due.is("undo()", s.undo(), 6);
        Due.is("count(2)", s.count(2), 6);
        s.box(-1);
        Due.is("image()", s.image(), 6);
        s.box(1);
        Due.is("undo()", s.undo(), 6);
        Due.is("count(2)", s.count(2), 0);
    }

    private static void undoTwice() {
        Due.promise(35, "THE IMAGE stays, for the next undo() too");
        BrokenThree s = Lay.broken(Lay.stick("long 9;price 2 x>0", 0), 0, 4);
        s.box(5);
        s.see(4);
        s.book(1, 1, 1, true);
        s.image();
        for (int i = 0; i < 3; i++) {
            Lay.broken(s, 0, 2, 6);
            s.box(7);
            s.see(5);
            s.book(1, 1, 1, false);
            s.breaker(1, 1);
            Due.is("undo()", s.undo(), 1);
            Due.text("pieces", Lay.pieces(s), "4,5");
            Due.is("told(3)", s.told(3), 2);
            Due.is("count(2)", s.count(2), 1);
            Due.is("count(3)", s.count(3), 1);
            Due.is("count(4)", s.count(4), 1);
            Due.is("looked()", s.looked(), -5);
            Due.is("undo(), at once", s.undo(), 1);
            Due.text("pieces", Lay.pieces(s), "4,5");
        }
    }

    private static void traceIsNoPart() {
        Due.promise(34, "all that there is (but THE IMAGE and THE TRACE)");
        BrokenThree s = sixth(4, 2);
        s.act(5, 2, 1);
        s.image();
        Due.is("count(6), after image()", s.count(6), 7);
        s.act(0, 1, 1);
        s.undo();
        Due.is("count(6), after undo()", s.count(6), 2);
        Due.is("trace(0)", s.trace(0), 2);
        Due.is("trace(1)", s.trace(1), 1);
        Due.is("trace(2)", s.trace(2), BrokenThree.NONE);
        s.act(-1, 0, 0);
        s.undo();
        Due.is("count(6), of none", s.count(6), 0);
    }

    private static void imageChangesNothing() {
        Due.promise(34, "nothing else changes by it");
        BrokenThree one = new BrokenThree();
        BrokenThree other = new BrokenThree();
        full(one);
        full(other);
        one.image();
        Due.text("all that can be asked", String.join("\n", Probe.asked(one)), String.join("\n", Probe.asked(other)));
    }

    private static void countWhat() {
        Due.promise(36, "what 0 .. 6. NONE");
        BrokenThree s = new BrokenThree();
        for (int what : new int[] {-1, 7, MIN, MAX}) {
            Due.is("count(" + what + ")", s.count(what), BrokenThree.NONE);
        }
        s.breaker(4, 0);
        Due.is("count(0)", s.count(0), 1);
        Lay.yard(s, "long 5");
        Due.is("count(1)", s.count(1), 1);
        s.box(5);
        Due.is("count(2)", s.count(2), 1);
        s.see(5);
        Due.is("count(3)", s.count(3), 1);
        s.book(5, 5, 5, true);
        Due.is("count(4)", s.count(4), 1);
        s.feed(5);
        Due.is("count(5)", s.count(5), 1);
        s.act(0, 0, 5);
        Due.is("count(6)", s.count(6), 2);
        for (int what = 0; what <= 5; what++) {
            Due.is("count(" + what + ")", s.count(what), 1);
        }
    }

    private static void countEmptyAndFull() {
        Due.promise(36, "the empty and the full");
        BrokenThree s = new BrokenThree();
        for (int what = 0; what <= 6; what++) {
            Due.is("count(" + what + "), empty", s.count(what), 0);
        }
        full(s);
        full(s);
        int[] due = {6, 5, 10, 4, 8, 22};
        for (int what = 0; what < due.length; what++) {
            Due.is("count(" + what + "), full", s.count(what), due[what]);
        }
        BrokenThree tape = new BrokenThree();
        for (int i = 0; i < 101; i++) {
            tape.feed('x');
        }
        Due.is("count(5), full", tape.count(5), 100);
    }
}
