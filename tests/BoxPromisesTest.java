/** Promises 17 to 22: boxes and saws. */
public final class BoxPromisesTest {
    public static void main(String[] args) {
        box();
        triangles();
        drawn();
        none();
        stair();
        sawn();
        Due.end("BoxPromisesTest");
    }

    private static void box() {
        Due.promise(17, "box");
        BrokenThree s = new BrokenThree();
        Due.is("box(0)", s.box(0), BrokenThree.BAD);
        Due.is("box(100)", s.box(100), BrokenThree.BAD);
        Due.is("box(-2)", s.box(-2), BrokenThree.BAD);
        for (int i = 1; i <= 10; i++) {
            Due.is("box(" + (i == 1 ? 1 : 99) + ")", s.box(i == 1 ? 1 : 99), i);
        }
        Due.is("box(5), full", s.box(5), BrokenThree.FULL);
        Due.is("box(100), full", s.box(100), BrokenThree.BAD);
        Due.is("count(2)", s.count(2), 10);
        Due.is("box(-1)", s.box(-1), 0);
        Due.is("count(2)", s.count(2), 0);
        Due.is("box(-1)", s.box(-1), 0);
    }

    private static void triangles() {
        Due.promise(18, "triangles");
        Due.is("of none", Lay.box().triangles(), 0);
        Due.is("of two", Lay.box(3, 3).triangles(), 0);
        Due.is("of 3 4 5", Lay.box(3, 4, 5).triangles(), 1);
        Due.is("of 1 2 3", Lay.box(1, 2, 3).triangles(), 0);
        Due.is("of 5 3 2", Lay.box(5, 3, 2).triangles(), 0);
        Due.is("of 2 2 2 2", Lay.box(2, 2, 2, 2).triangles(), 4);
        Due.is("of 4 1 3 2 5", Lay.box(4, 1, 3, 2, 5).triangles(), 3);
        Due.is("of ten alike", Lay.box(7, 7, 7, 7, 7, 7, 7, 7, 7, 7).triangles(), 120);
        BrokenThree s = Lay.box(3, 4, 5);
        s.box(-1);
        s.box(3);
        Due.is("of 3, the box emptied before", s.triangles(), 0);
    }

    private static void drawn() {
        Due.promise(19, "drawn");
        Fractions.drawnIs(Lay.box(4, 1, 3, 2, 5), "3/10");
        Fractions.drawnIs(Lay.box(3, 4, 5), "1/1");
        Fractions.drawnIs(Lay.box(1, 2, 3), "0/1");
        Fractions.drawnIs(Lay.box(2, 2, 2, 9), "1/4");
        Due.is("drawn(0) of two", Lay.box(2, 2).drawn(0), BrokenThree.NO);
        Due.is("drawn(1) of none", Lay.box().drawn(1), BrokenThree.NO);
        Due.is("drawn(2)", Lay.box(3, 4, 5).drawn(2), BrokenThree.NO);
        Due.is("drawn(-1)", Lay.box(3, 4, 5).drawn(-1), BrokenThree.NO);
    }

    private static void noneIs(BrokenThree s, int many, int bits) {
        Due.is("none(0)", s.none(0), many);
        Due.is("none(1)", s.none(1), bits);
    }

    private static void none() {
        Due.promise(20, "none");
        noneIs(Lay.box(), 0, 0);
        noneIs(Lay.box(9), 1, 1);
        noneIs(Lay.box(9, 9), 2, 3);
        noneIs(Lay.box(9, 9, 9), 2, 3);
        noneIs(Lay.box(1, 2, 3), 3, 7);
        noneIs(Lay.box(5, 4, 3, 2, 1), 4, 29);
        // 4 3 1 has less bits than 4 2 1 and 3 2 1
        noneIs(Lay.box(4, 3, 2, 1), 3, 11);
        noneIs(Lay.box(3, 4, 5, 9, 2), 4, 29);
        // 1 1 2 3 5 8 of those scrambled; with 1 1 2 4 7 there are but five
        noneIs(Lay.box(4, 8, 3, 1, 7, 5, 2, 1), 6, 2 + 4 + 8 + 32 + 64 + 128);
        noneIs(Lay.box(99, 50, 49, 2, 1), 4, 1 + 2 + 4 + 16);
        noneIs(Lay.box(55, 34, 21, 13, 8, 5, 3, 2, 1, 89), 10, 1023);
        noneIs(Lay.box(7, 7, 7, 7, 7, 7, 7, 7, 7, 7), 2, 3);
        Due.is("none(2)", Lay.box(1).none(2), BrokenThree.NONE);
        Due.is("none(-1)", Lay.box(1).none(-1), BrokenThree.NONE);
    }

    private static void stair() {
        Due.promise(21, "stair");
        BrokenThree s = new BrokenThree();
        int[][] due = {{1, 1}, {2, 2}, {3, 3}, {4, 3}, {5, 4}, {7, 4}, {8, 5}, {12, 5}, {13, 6}, {986, 14}, {987, 15}, {999, 15}};
        for (int[] d : due) {
            Due.is("stair(" + d[0] + ")", s.stair(d[0]), d[1]);
        }
        for (int m : new int[] {0, -1, 1000, Integer.MAX_VALUE, Integer.MIN_VALUE}) {
            Due.is("stair(" + m + ")", s.stair(m), BrokenThree.BAD);
        }
    }

    private static void sawnIs(int length, int p, int most, int... pieces) {
        BrokenThree s = new BrokenThree();
        Lay.yard(s, "long " + length);
        Due.is("sawn(" + p + ", -1) of " + length, s.sawn(p, -1), most);
        for (int k = 0; k <= 5; k++) {
            Due.is("sawn(" + p + ", " + k + ") of " + length, s.sawn(p, k), k < pieces.length ? pieces[k] : -5);
        }
    }

    private static void sawn() {
        Due.promise(22, "sawn");
        sawnIs(12, 3, 1, 4, 4, 4);
        sawnIs(12, 6, 20, 2, 2, 2, 2, 2, 2);
        sawnIs(4, 3, 0, 2, 1, 1);
        sawnIs(3, 3, 1, 1, 1, 1);
        sawnIs(2, 3, -5);
        sawnIs(5, 6, -5);
        sawnIs(6, 6, 20, 1, 1, 1, 1, 1, 1);
        sawnIs(7, 6, 10, 2, 1, 1, 1, 1, 1);
        sawnIs(17, 6, 20, 3, 3, 3, 3, 3, 2);
        sawnIs(14, 4, 4, 4, 4, 3, 3);
        sawnIs(16, 3, 1, 6, 5, 5);
        BrokenThree s = new BrokenThree();
        Due.is("sawn(3, 6)", s.sawn(3, 6), BrokenThree.NONE);
        Due.is("sawn(3, -2)", s.sawn(3, -2), BrokenThree.NONE);
        Due.is("sawn(2, 0)", s.sawn(2, 0), BrokenThree.BAD);
        Due.is("sawn(7, 0)", s.sawn(7, 0), BrokenThree.BAD);
        Due.is("sawn(7, 6)", s.sawn(7, 6), BrokenThree.NONE);
        Lay.yard(s, "long 2");
        Due.is("sawn(3, 6)", s.sawn(3, 6), BrokenThree.NONE);
        Due.is("sawn(2, 5)", s.sawn(2, 5), BrokenThree.BAD);
    }
}
