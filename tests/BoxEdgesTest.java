/** Promises 17 to 22, sentence by sentence: boxes and saws at the edges that the document names. */
public final class BoxEdgesTest {
    private static final int MIN = Integer.MIN_VALUE;
    private static final int MAX = Integer.MAX_VALUE;

    public static void main(String[] args) {
        lengthsTaken();
        sticksAtMost();
        emptied();
        trianglesOfFew();
        trianglesThatClose();
        trianglesByNumbers();
        drawnOfFew();
        drawnInLowestTerms();
        noneOfFew();
        noneOfSeveral();
        noneThatJustDoes();
        noneOfTen();
        noneWhat();
        stairSteps();
        stairTaken();
        stairBySets();
        sawnRefused();
        sawnOfTooShort();
        sawnPieces();
        sawnOfSeveral();
        sawnByLength();
        Due.end("BoxEdgesTest");
    }

    private static void lengthsTaken() {
        Due.promise(17, "lengths 1 .. 99");
        BrokenThree s = new BrokenThree();
        for (int length : new int[] {0, -2, 100, MIN, MAX}) {
            Due.is("box(" + length + ")", s.box(length), BrokenThree.BAD);
        }
        Due.is("count(2)", s.count(2), 0);
        Due.is("box(1)", s.box(1), 1);
        Due.is("box(99)", s.box(99), 2);
        Due.is("box(0)", s.box(0), BrokenThree.BAD);
        Due.is("box(100)", s.box(100), BrokenThree.BAD);
        Due.is("count(2)", s.count(2), 2);
        Due.is("box(99)", s.box(99), 3);
        Due.is("triangles()", s.triangles(), 1);
    }

    private static void sticksAtMost() {
        Due.promise(17, "10 at most");
        BrokenThree s = new BrokenThree();
        for (int i = 1; i <= 10; i++) {
            Due.is("box(7)", s.box(7), i);
            Due.is("count(2)", s.count(2), i);
        }
        Due.is("box(7), the eleventh", s.box(7), BrokenThree.FULL);
        Due.is("box(1), full", s.box(1), BrokenThree.FULL);
        Due.is("box(99), full", s.box(99), BrokenThree.FULL);
        Due.is("box(0), full", s.box(0), BrokenThree.BAD);
        Due.is("box(100), full", s.box(100), BrokenThree.BAD);
        Due.is("box(-2), full", s.box(-2), BrokenThree.BAD);
        Due.is("count(2)", s.count(2), 10);
        Due.is("triangles()", s.triangles(), 120);
    }

    private static void emptied() {
        Due.promise(17, "-1: none then, 0");
        BrokenThree s = new BrokenThree();
        Due.is("box(-1), empty", s.box(-1), 0);
        for (int i = 0; i < 10; i++) {
            s.box(5);
        }
        Due.is("box(-1), full", s.box(-1), 0);
        Due.is("count(2)", s.count(2), 0);
        Due.is("triangles()", s.triangles(), 0);
        Due.is("drawn(0)", s.drawn(0), BrokenThree.NO);
        Due.is("none(0)", s.none(0), 0);
        Due.is("none(1)", s.none(1), 0);
        Due.is("box(9)", s.box(9), 1);
        Due.is("box(9)", s.box(9), 2);
        Due.is("triangles(), of two", s.triangles(), 0);
        Due.is("none(1), of two", s.none(1), 3);
    }

    private static void trianglesOfFew() {
        Due.promise(18, "three of them");
        Due.is("of none", Lay.box().triangles(), 0);
        Due.is("of one", Lay.box(5).triangles(), 0);
        Due.is("of two", Lay.box(5, 5).triangles(), 0);
        Due.is("of three", Lay.box(5, 5, 5).triangles(), 1);
    }

    private static void trianglesThatClose() {
        Due.promise(18, "CLOSE: the longest is shorter than the others together");
        int[][] closing = {{1, 1, 1}, {2, 2, 3}, {50, 50, 99}, {99, 99, 1}, {99, 99, 99}, {98, 99, 2}};
        int[][] not = {{1, 1, 2}, {1, 2, 3}, {49, 50, 99}, {50, 49, 99}, {1, 98, 99}, {1, 1, 99}, {97, 99, 1}};
        for (int[] c : closing) {
            Due.is("of " + java.util.Arrays.toString(c), allOrders(c), 6);
        }
        for (int[] n : not) {
            Due.is("of " + java.util.Arrays.toString(n), allOrders(n), 0);
        }
    }

    /** In how many orders of the three lengths they close. */
    private static int allOrders(int[] t) {
        int[][] orders = {{0, 1, 2}, {0, 2, 1}, {1, 0, 2}, {1, 2, 0}, {2, 0, 1}, {2, 1, 0}};
        int closing = 0;
        for (int[] o : orders) {
            closing += Lay.box(t[o[0]], t[o[1]], t[o[2]]).triangles();
        }
        return closing;
    }

    private static void trianglesByNumbers() {
        Due.promise(18, "unlike ones by their numbers");
        Due.is("of 3 3 3 3", Lay.box(3, 3, 3, 3).triangles(), 4);
        Due.is("of 2 2 3 3", Lay.box(2, 2, 3, 3).triangles(), 4);
        Due.is("of 1 1 2 2", Lay.box(1, 1, 2, 2).triangles(), 2);
        Due.is("of 1 to 10", Lay.box(1, 2, 3, 4, 5, 6, 7, 8, 9, 10).triangles(), 50);
        Due.is("of ten alike", Lay.box(99, 99, 99, 99, 99, 99, 99, 99, 99, 99).triangles(), 120);
    }

    private static void drawnOfFew() {
        Due.promise(19, "NO: fewer than 3");
        for (BrokenThree s : new BrokenThree[] {Lay.box(), Lay.box(9), Lay.box(9, 9)}) {
            for (int part : new int[] {0, 1, 2, -1}) {
                Due.is("drawn(" + part + ") of " + s.count(2), s.drawn(part), BrokenThree.NO);
            }
        }
        Fractions.drawnIs(Lay.box(9, 9, 9), "1/1");
        Fractions.drawnIs(Lay.box(9, 9, 18), "0/1");
        Due.promise(19, "NO: part");
        for (int part : new int[] {-1, 2, MIN, MAX}) {
            Due.is("drawn(" + part + ")", Lay.box(9, 9, 9).drawn(part), BrokenThree.NO);
        }
    }

    private static void drawnInLowestTerms() {
        Due.promise(19, "how likely three drawn of it CLOSE, in lowest terms");
        Fractions.drawnIs(Lay.box(3, 3, 3, 9), "1/4");
        Fractions.drawnIs(Lay.box(1, 1, 2, 2), "1/2");
        Fractions.drawnIs(Lay.box(1, 2, 3, 4, 5, 6, 7, 8, 9, 10), "5/12");
        Fractions.drawnIs(Lay.box(7, 7, 7, 7, 7, 7, 7, 7, 7, 7), "1/1");
        Fractions.drawnIs(Lay.box(1, 2, 3, 5, 8, 13, 21, 34, 55, 89), "0/1");
    }

    private static void noneIs(int[] box, int many, int bits) {
        BrokenThree s = Lay.box(box);
        Due.is("none(0) of " + java.util.Arrays.toString(box), s.none(0), many);
        Due.is("none(1) of " + java.util.Arrays.toString(box), s.none(1), bits);
    }

    private static int[] of(int... lengths) {
        return lengths;
    }

    private static void noneOfFew() {
        Due.promise(20, "of an empty box, and of one or two: all of them");
        noneIs(of(), 0, 0);
        noneIs(of(1), 1, 1);
        noneIs(of(99), 1, 1);
        noneIs(of(99, 99), 2, 3);
        noneIs(of(1, 99), 2, 3);
        noneIs(of(5, 5, 5), 2, 3);
        noneIs(of(1, 1, 2), 3, 7);
        noneIs(of(2, 1, 1), 3, 7);
        noneIs(of(1, 2, 1), 3, 7);
    }

    private static void noneOfSeveral() {
        Due.promise(20, "which, as bits (of several sets the least)");
        noneIs(of(5, 5, 5, 5), 2, 3);
        noneIs(of(4, 3, 2, 1), 3, 1 + 2 + 8);
        noneIs(of(1, 2, 3, 4), 3, 1 + 2 + 4);
        noneIs(of(4, 2, 3, 1), 3, 1 + 2 + 8);
        noneIs(of(3, 4, 5, 9, 2), 4, 1 + 4 + 8 + 16);
        noneIs(of(5, 5, 5, 1), 2, 3);
        noneIs(of(9, 9, 9, 4, 5), 3, 1 + 8 + 16);
        noneIs(of(9, 8, 7, 6), 2, 3);
    }

    private static void noneThatJustDoes() {
        Due.promise(20, "no three CLOSE: the longest may be as long as the others together");
        noneIs(of(1, 2, 3), 3, 7);
        noneIs(of(49, 50, 99), 3, 7);
        noneIs(of(50, 50, 99), 2, 3);
        noneIs(of(1, 98, 99), 3, 7);
        noneIs(of(2, 98, 99), 2, 3);
    }

    private static void noneOfTen() {
        Due.promise(20, "the most sticks, of a full box");
        noneIs(of(1, 1, 2, 3, 5, 8, 13, 21, 34, 55), 10, 1023);
        noneIs(of(89, 55, 34, 21, 13, 8, 5, 3, 2, 1), 10, 1023);
        noneIs(of(7, 7, 7, 7, 7, 7, 7, 7, 7, 7), 2, 3);
        noneIs(of(7, 7, 7, 7, 7, 7, 7, 7, 7, 99), 3, 1 + 2 + 512);
        // 1 2 3 5 8 of 1 .. 10
        noneIs(of(1, 2, 3, 4, 5, 6, 7, 8, 9, 10), 5, 1 + 2 + 4 + 16 + 128);
        // 10 6 4 2 1
        noneIs(of(10, 9, 8, 7, 6, 5, 4, 3, 2, 1), 5, 1 + 16 + 64 + 256 + 512);
    }

    private static void noneWhat() {
        Due.promise(20, "NONE: what");
        for (int what : new int[] {-1, 2, MIN, MAX}) {
            Due.is("none(" + what + "), empty", Lay.box().none(what), BrokenThree.NONE);
            Due.is("none(" + what + ")", Lay.box(5, 5, 5).none(what), BrokenThree.NONE);
        }
    }

    private static void stairSteps() {
        Due.promise(21, "how many there can be at most of 1 .. m");
        int[] steps = {1, 2, 3, 5, 8, 13, 21, 34, 55, 89, 144, 233, 377, 610, 987};
        BrokenThree s = new BrokenThree();
        for (int i = 0; i < steps.length; i++) {
            Due.is("stair(" + steps[i] + ")", s.stair(steps[i]), i + 1);
            if (i > 0) {
                Due.is("stair(" + (steps[i] - 1) + ")", s.stair(steps[i] - 1), i);
            }
            Due.is("stair(" + (steps[i] + 1) + ")", s.stair(steps[i] + 1), i < 2 ? i + 2 : i + 1);
        }
    }

    private static void stairTaken() {
        Due.promise(21, "BAD: m (1 .. 999)");
        BrokenThree s = Lay.box(3, 4, 5);
        Due.is("stair(1)", s.stair(1), 1);
        Due.is("stair(999)", s.stair(999), 15);
        for (int m : new int[] {0, -1, 1000, MIN, MAX}) {
            Due.is("stair(" + m + ")", s.stair(m), BrokenThree.BAD);
        }
    }

    private static void stairBySets() {
        Due.promise(21, "of whole unlike lengths, no three of which CLOSE");
        BrokenThree s = new BrokenThree();
        for (int m = 1; m <= 14; m++) {
            int most = 0;
            for (int set = 0; set < 1 << m; set++) {
                most = Integer.bitCount(set) > most && !anyClose(set, m) ? Integer.bitCount(set) : most;
            }
            Due.is("stair(" + m + ")", s.stair(m), most);
        }
    }

    private static boolean anyClose(int set, int m) {
        for (int c = 3; c <= m; c++) {
            for (int b = 2; b < c; b++) {
                for (int a = 1; a < b; a++) {
                    if (a + b > c && (set >> a - 1 & 1) + (set >> b - 1 & 1) + (set >> c - 1 & 1) == 3) {
                        return true;
                    }
                }
            }
        }
        return false;
    }

    private static void sawnIs(int length, int p, int most, int... pieces) {
        BrokenThree s = Lay.stick("long " + length);
        Due.is("sawn(" + p + ", -1) of " + length, s.sawn(p, -1), most);
        for (int k = 0; k <= 5; k++) {
            Due.is("sawn(" + p + ", " + k + ") of " + length, s.sawn(p, k), k < pieces.length ? pieces[k] : -5);
        }
    }

    private static void sawnRefused() {
        Due.promise(22, "NONE: k (-1 .. 5); BAD: p");
        BrokenThree s = Lay.stick("long 17");
        for (int k : new int[] {-2, 6, MIN, MAX}) {
            for (int p : new int[] {2, 3, 6, 7}) {
                Due.is("sawn(" + p + ", " + k + ")", s.sawn(p, k), BrokenThree.NONE);
            }
        }
        for (int p : new int[] {2, 7, 0, -1, MIN, MAX}) {
            for (int k : new int[] {-1, 0, 2, 5}) {
                Due.is("sawn(" + p + ", " + k + ")", s.sawn(p, k), BrokenThree.BAD);
            }
        }
        BrokenThree two = Lay.stick("long 2");
        Due.is("sawn(7, 5) of 2", two.sawn(7, 5), BrokenThree.BAD);
        Due.is("sawn(3, 6) of 2", two.sawn(3, 6), BrokenThree.NONE);
    }

    private static void sawnOfTooShort() {
        Due.promise(22, "-5: LENGTH is less than p");
        for (int p = 3; p <= 6; p++) {
            sawnIs(p - 1, p, -5);
        }
        sawnIs(2, 6, -5);
        sawnIs(3, 3, 1, 1, 1, 1);
        sawnIs(4, 4, 4, 1, 1, 1, 1);
        sawnIs(5, 5, 10, 1, 1, 1, 1, 1);
        sawnIs(6, 6, 20, 1, 1, 1, 1, 1, 1);
    }

    private static void sawnPieces() {
        Due.promise(22, "the k-th PIECE of it, the longest first; -5: there is no such PIECE");
        sawnIs(17, 3, 1, 6, 6, 5);
        sawnIs(17, 4, 4, 5, 4, 4, 4);
        sawnIs(17, 5, 10, 4, 4, 3, 3, 3);
        sawnIs(17, 6, 20, 3, 3, 3, 3, 3, 2);
        BrokenThree s = new BrokenThree();
        Due.is("sawn(3, -1), no yard", s.sawn(3, -1), 1);
        Due.is("sawn(3, 2)", s.sawn(3, 2), 4);
        Due.is("sawn(3, 3)", s.sawn(3, 3), -5);
        Due.is("sawn(6, 5)", s.sawn(6, 5), 2);
        Due.is("sawn(5, 5)", s.sawn(5, 5), -5);
    }

    private static void sawnOfSeveral() {
        Due.promise(22, "of several that whose longest is least, then the next, and so on");
        // 4 in three do not close: 2 1 1; 5: 2 2 1
        sawnIs(4, 3, 0, 2, 1, 1);
        sawnIs(5, 3, 1, 2, 2, 1);
        sawnIs(6, 3, 1, 2, 2, 2);
        sawnIs(7, 3, 1, 3, 2, 2);
        // 2 1 1 1: the three ones alone; 2 2 1 1 of 6: two
        sawnIs(5, 4, 1, 2, 1, 1, 1);
        sawnIs(6, 4, 2, 2, 2, 1, 1);
        sawnIs(7, 4, 4, 2, 2, 2, 1);
        sawnIs(9, 4, 4, 3, 2, 2, 2);
        sawnIs(7, 6, 10, 2, 1, 1, 1, 1, 1);
        sawnIs(6, 5, 4, 2, 1, 1, 1, 1);
    }

    private static void sawnByLength() {
        Due.promise(22, "the stick as broken by hand is no matter");
        BrokenThree s = Lay.broken(Lay.stick("long 12;cuts 1;hard 9 l=12&x=11", 0), 0, 1, 2, 3);
        Due.is("sawn(4, -1)", s.sawn(4, -1), 4);
        Due.is("sawn(4, 0)", s.sawn(4, 0), 3);
        Due.is("sawn(4, 3)", s.sawn(4, 3), 3);
        Due.text("pieces", Lay.pieces(s), "1,1,1,9");
        Due.is("count(2), of the box", s.count(2), 0);
    }
}
