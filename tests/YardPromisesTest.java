/** Promises 1 to 11: a new object, yards and breakers. */
public final class YardPromisesTest {
    public static void main(String[] args) {
        newObject();
        feed();
        yardNumbers();
        yardFaults();
        yardLimits();
        yardHolds();
        breaker();
        of();
        hardness();
        kinds();
        row();
        told();
        piece();
        breaks();
        whole();
        shape();
        Due.end("YardPromisesTest");
    }

    private static void newObject() {
        Due.promise(1, "a new object");
        BrokenThree s = new BrokenThree();
        for (int what = 0; what <= 6; what++) {
            Due.is("count(" + what + ")", s.count(what), 0);
        }
        Due.is("told(0)", s.told(0), 12);
        Due.is("told(1)", s.told(1), 2);
        Due.is("told(2)", s.told(2), 1);
        Due.is("told(3)", s.told(3), 0);
        Due.is("piece(0)", s.piece(0), 12);
        Due.is("of(0, 0)", s.of(0, 0), BrokenThree.NONE);
        Due.is("undo()", s.undo(), BrokenThree.STATE);
        Due.is("trace(0)", s.trace(0), BrokenThree.NONE);
    }

    private static void feed() {
        Due.promise(2, "feed");
        BrokenThree s = new BrokenThree();
        Due.is("feed(0)", s.feed(0), 1);
        Due.is("feed(127)", s.feed(127), 2);
        Due.is("feed(128)", s.feed(128), BrokenThree.BAD);
        Due.is("feed(-1)", s.feed(-1), BrokenThree.BAD);
        Due.is("feed(min)", s.feed(Integer.MIN_VALUE), BrokenThree.BAD);
        Due.is("signs", s.count(5), 2);
        for (int i = 3; i <= 100; i++) {
            Due.is("feed(65)", s.feed(65), i);
        }
        Due.is("feed(65), full", s.feed(65), BrokenThree.FULL);
        Due.is("feed(128), full", s.feed(128), BrokenThree.BAD);
        Due.is("signs", s.count(5), 100);
    }

    private static void yardNumbers() {
        Due.promise(3, "yard");
        BrokenThree s = new BrokenThree();
        for (int i = 0; i < 5; i++) {
            Due.is("yard()", Lay.yard(s, "long " + (i + 2)), i);
            Due.is("signs", s.count(5), 0);
            Due.is("length", s.told(0), i + 2);
        }
        Lay.feed(s, "lo");
        Due.is("yard(), full, ahead of the fault", s.yard(), BrokenThree.FULL);
        Due.is("the tape stays", s.count(5), 2);
        Due.is("yards", s.count(1), 5);
        Due.is("the fifth holds", s.told(0), 6);
    }

    private static void fault(String text, int place) {
        BrokenThree s = new BrokenThree();
        Due.is("yard() of \"" + text + "\"", Lay.yard(s, text), place < 0 ? 0 : -10 - place);
        Due.is("signs left of \"" + text + "\"", s.count(5), 0);
    }

    private static void yardFaults() {
        Due.promise(3, "yard, faults");
        fault("", 0);
        fault("x", 0);
        fault("long", 4);
        fault("lung 3", 1);
        fault("long  3", 5);
        fault("long x", 5);
        fault("long 3", -1);
        fault("long 03", 6);
        fault("long 0", -1);
        fault("long 123", 7);
        fault("long :", 5);
        fault("long 1:", 6);
        fault("long /", 5);
        fault("long 1/", 6);
        fault("long 3 ", 6);
        fault("long 3;", 7);
        fault("long 3;;", 7);
        fault("cuts 1;long 3;cuts 2", -1);
        fault("cut 1", 3);
        fault("hard 1", 6);
        fault("hard 1 ", 7);
        fault("hard 1;", 6);
        fault("hard 1 x", 8);
        fault("hard 1 x=", 9);
        fault("hard 1 x=3", -1);
        fault("hard 1 x=34", -1);
        fault("hard 1 x=345", 11);
        fault("hard 1 x=03", 10);
        fault("hard 1 x>=3", 9);
        fault("hard 1 y=3", 7);
        fault("hard 1 x=3)", 10);
        fault("hard 1 (x=3", 11);
        fault("hard 1 (x=3)", -1);
        fault("hard 1 (x=3))", 12);
        fault("hard 1 (x=3;", 11);
        fault("hard 1 ()", 8);
        fault("hard 1 !", 8);
        fault("hard 1 !x=3", -1);
        fault("hard 1 x=3!", 10);
        fault("hard 1 x=3&", 11);
        fault("hard 1 x=3&|", 11);
        fault("hard 1 x=3&r<2|l>4&c=1|k=6", -1);
        fault("hard 1 x=3 &", 10);
        fault("price 5 !(x=3|!r<2)", -1);
        fault("pricex", 5);
        fault("Long 3", 0);
    }

    private static void yardLimits() {
        Due.promise(3, "yard, limits");
        fault("hard 1 !!!!!x=1", -1);
        fault("hard 1 !!!!!!x=1", 12);
        fault("hard 1 (((((x=1)))))", -1);
        fault("hard 1 ((((((x=1))))))", 12);
        fault("hard 1 !(!(!x=1))", -1);
        fault("hard 1 !(!(!(x=1)))", 12);
        // an ! ends with its F, a ( with its ): others may come behind
        fault("hard 1 !!!!!x=1&!!!!!x=2|!!!!!r=1", -1);
        fault("hard 1 (((((x=1)))))&(((((x=2)))))", -1);
        fault("hard 1 (!!!!x=1&!!!!x=2)", -1);
        fault("hard 1 (!!!!x=1&!!!!!x=2)", 20);
        String ten = "cuts 1;cuts 1;cuts 1;cuts 1;cuts 1;cuts 1;cuts 1;cuts 1;cuts 1;cuts 1";
        fault(ten, -1);
        fault(ten + ";cuts 1", ten.length());
        StringBuilder full = new StringBuilder("hard 1 x=10");
        while (full.length() + 4 <= 100) {
            full.append("|x=1");
        }
        fault(full.toString(), -1);
        while (full.length() < 100) {
            full.append('|');
        }
        fault(full.toString(), full.indexOf("||") < 0 ? 100 : full.indexOf("||") + 1);
    }

    private static void yardHolds() {
        Due.promise(3, "yard, which holds");
        BrokenThree s = Lay.stick("long 1;long 0", 0);
        Due.is("length of long 0", s.told(0), 2);
        Due.is("yard()", Lay.yard(s, "long 3;long 99;cuts 9"), 1);
        Due.is("length of long 99", s.told(0), 17);
        Due.is("cuts of cuts 9", s.told(1), 3);
        Due.is("yard()", Lay.yard(s, "long 5;cuts 3;long 7;cuts 0;price 4 x=3"), 2);
        Due.is("length, the last", s.told(0), 7);
        Due.is("cuts, the last", s.told(1), 1);
        s.breaks(0, 2);
        Due.is("spent", s.told(3), 4);
        Due.is("yard() with a fault", Lay.yard(s, "long 9;"), -17);
        Due.is("the one that held holds", s.told(0), 7);
        Due.is("pieces stay", s.told(2), 2);
        Due.is("yards", s.count(1), 3);
        Due.is("yard()", Lay.yard(s, "cuts 2"), 3);
        Due.is("length without long", s.told(0), 12);
        Due.is("the stick is whole", s.told(2), 1);
        Due.is("nothing is spent", s.told(3), 0);
        Due.is("piece(0)", s.piece(0), 12);
        Lay.yard(s, "long 5;hard 1 x>0;price 3 x>0");
        BrokenThree other = Lay.stick("long 5;hard 1 x>0;price 3 x>0", 0);
        Lay.mayIs(other, 0, "");
        Due.is("yard()", Lay.yard(other, "long 4"), 1);
        Lay.mayIs(other, 0, "1,2,3");
        other.breaks(0, 0);
        Due.is("the older one's prices are gone", other.told(3), 0);
    }

    private static void breaker() {
        Due.promise(4, "breaker");
        BrokenThree s = new BrokenThree();
        Due.is("breaker(7, 99)", s.breaker(7, 99), BrokenThree.NONE);
        Due.is("breaker(-1, 0)", s.breaker(-1, 0), BrokenThree.NONE);
        Due.is("breaker(0, 10)", s.breaker(0, 10), BrokenThree.BAD);
        Due.is("breaker(0, -1)", s.breaker(0, -1), BrokenThree.BAD);
        Due.is("nobody", s.count(0), 0);
        for (int i = 0; i < 6; i++) {
            Due.is("breaker(" + (6 - i) + ", 9)", s.breaker(6 - i, 9), i);
        }
        Due.is("breaker(0, 0), full", s.breaker(0, 0), BrokenThree.FULL);
        Due.is("breaker(7, 0), full", s.breaker(7, 0), BrokenThree.NONE);
        Due.is("breaker(0, 10), full", s.breaker(0, 10), BrokenThree.BAD);
    }

    private static void of() {
        Due.promise(5, "of");
        BrokenThree s = Lay.stick("long 6");
        s.breaker(2, 7);
        Due.is("of(0, 0)", s.of(0, 0), 2);
        Due.is("of(0, 1)", s.of(0, 1), 7);
        Due.is("of(0, 2)", s.of(0, 2), 5);
        for (int k = 0; k < 5; k++) {
            Due.is("of(0, " + (10 + k) + ")", s.of(0, 10 + k), k + 1);
        }
        for (int what : new int[] {-1, 3, 9, 15, Integer.MAX_VALUE, Integer.MIN_VALUE}) {
            Due.is("of(0, " + what + ")", s.of(0, what), BrokenThree.NONE);
        }
        Due.is("of(1, 0)", s.of(1, 0), BrokenThree.NONE);
        Due.is("of(-1, 0)", s.of(-1, 0), BrokenThree.NONE);
    }

    private static void hardness() {
        Due.promise(5, "of, where it is too hard");
        Lay.mayIs(Lay.stick("long 7;hard 1 x=3", 0), 0, "1,2,4,5,6");
        Lay.mayIs(Lay.stick("long 7;hard 0 x=3", 0), 0, "1,2,3,4,5,6");
        Lay.mayIs(Lay.stick("long 7;hard 0 x<4;hard 2 x=3", 0), 0, "1,2,4,5,6");
        Lay.mayIs(Lay.stick("long 7;hard 1 r<2", 0), 0, "2,3,4,5");
        Lay.mayIs(Lay.stick("long 7;hard 1 r>2", 0), 0, "1,2,5,6");
        Lay.mayIs(Lay.stick("long 7;hard 1 !(x=2|x=4)", 0), 0, "2,4");
        Lay.mayIs(Lay.stick("long 7;hard 1 x>1&x<4|x=6", 0), 0, "1,4,5");
        Lay.mayIs(Lay.stick("long 7;hard 1 x=6|x>1&x<4", 0), 0, "1,4,5");
        Lay.mayIs(Lay.stick("long 7;hard 1 !x=6&!x=2", 0), 0, "2,6");
        Lay.mayIs(Lay.stick("long 7;hard 1 l=7", 0), 0, "");
        Lay.mayIs(Lay.stick("long 7;hard 1 l=8", 0), 0, "1,2,3,4,5,6");
        Lay.mayIs(Lay.stick("long 7;price 1 x=3", 0), 0, "1,2,3,4,5,6");
        Lay.mayIs(Lay.stick("long 7;hard 1 c<1", 0), 0, "");
        Lay.mayIs(Lay.stick("long 7;hard 1 c<0", 0), 0, "1,2,3,4,5,6");
        Lay.mayIs(Lay.stick("long 7;hard 1 c>0", 0), 0, "1,2,3,4,5,6");
        Lay.mayIs(Lay.stick("long 7;hard 1 k<1&x=1", 0, 1), 0, "2,3,4,5,6");
        Lay.mayIs(Lay.stick("long 7;hard 1 k<1&x=1", 0, 1), 1, "1,2,3,4,5,6");
        Lay.mayIs(Lay.stick("long 7;hard 1 l<8&x=1", 0), 0, "2,3,4,5,6");
        Lay.mayIs(Lay.stick("long 7;hard 1 l<7&x=1", 0), 0, "1,2,3,4,5,6");
        Lay.mayIs(Lay.stick("long 7;hard 1 x<10&x>0&x=1", 0), 0, "2,3,4,5,6");
        BrokenThree s = Lay.stick("long 7;hard 1 k=1&x=2;hard 1 c=1&x=5", 0, 1);
        Lay.mayIs(s, 0, "1,2,3,4,5,6");
        Lay.mayIs(s, 1, "1,3,4,5,6");
        Due.is("breaks(0, 2)", s.breaks(0, 2), 3);
        Lay.mayIs(s, 0, "1,2,4,6");
        Due.is("breaks(0, 2)", s.breaks(0, 2), 4);
        Lay.mayIs(s, 0, "1,2,5,6");
    }

    private static void kinds() {
        Due.promise(5, "of, by kinds");
        BrokenThree s = Lay.stick("long 17", 0, 1, 2, 3, 4);
        Lay.mayIs(s, 4, "8,9");
        // 3 5 4 5
        s.breaks(0, 2);
        s.breaks(0, 6);
        s.breaks(0, 9);
        Due.is("pieces", s.piece(0) * 1000 + s.piece(1) * 100 + s.piece(2) * 10 + s.piece(3), 3545);
        Lay.mayIs(s, 0, "1,2,4,5,6,7,9,10,11,13,14,15,16");
        Lay.mayIs(s, 1, "4,5,6,7");
        Lay.mayIs(s, 2, "1,2");
        Lay.mayIs(s, 3, "1,2");
        Lay.mayIs(s, 4, "5,6");
        s.breaker(5, 3);
        Lay.mayIs(s, 5, "9,10,11");

        BrokenThree thin = Lay.stick("long 17", 0);
        thin.breaks(0, 2);
        thin.breaks(0, 6);
        thin.breaks(0, 9);
        thin.breaker(5, 0);
        thin.breaker(5, 4);
        thin.breaker(5, 5);
        Lay.mayIs(thin, 1, "1,2");
        Lay.mayIs(thin, 2, "4,5,6,7");
        Lay.mayIs(thin, 3, "");

        // pieces that are hard all over are not open: the next one is taken
        BrokenThree hard = Lay.stick("long 12;hard 1 l=6;hard 1 l=2;hard 1 x=9", 0, 1, 2, 3, 4);
        hard.breaks(0, 1);
        hard.breaks(0, 4);
        Due.is("pieces", hard.piece(0) * 100 + hard.piece(1) * 10 + hard.piece(2), 255);
        Lay.mayIs(hard, 0, "3,4,5,6,8,10,11");
        Lay.mayIs(hard, 1, "3,4,5,6");
        Lay.mayIs(hard, 2, "3,4,5,6");
        Lay.mayIs(hard, 3, "3,4,5,6");
        hard.breaks(3, 0);
        Due.is("pieces", hard.piece(1) * 100 + hard.piece(2) * 10 + hard.piece(3), 145);
        Lay.mayIs(hard, 1, "8,10,11");
        Lay.mayIs(hard, 4, "10");
        Lay.mayIs(hard, 3, "4,5,6");
        Due.promise(5, "of a halving one whose middle is hard");
        Lay.mayIs(Lay.stick("long 8;hard 1 k=4&r=4", 4), 0, "3,5");
        Lay.mayIs(Lay.stick("long 8;hard 1 k=4&(r=4|x=5)", 4), 0, "3");
        Lay.mayIs(Lay.stick("long 8;hard 1 k=1&r=4", 4), 0, "4");
    }

    private static void row() {
        Due.promise(6, "row");
        BrokenThree s = Lay.stick("long 9", 0, 6);
        Due.is("row(1, 0, 3)", s.row(1, 0, 3), 0);
        Due.is("row(1, 0, 9)", s.row(1, 0, 9), 3);
        Due.is("row(1, 3, 1)", s.row(1, 3, 1), 0);
        Due.is("row(1, 4, 1)", s.row(1, 4, 1), BrokenThree.NONE);
        Due.is("row(1, -1, 1)", s.row(1, -1, 1), BrokenThree.NONE);
        Due.is("row(2, 0, 1)", s.row(2, 0, 1), BrokenThree.NONE);
        Due.is("row(1, 0, 10)", s.row(1, 0, 10), BrokenThree.BAD);
        Due.is("row(1, 0, -1)", s.row(1, 0, -1), BrokenThree.BAD);
        Due.is("row(0, 0, 1)", s.row(0, 0, 1), BrokenThree.STATE);
        Due.is("row(0, 0, 10)", s.row(0, 0, 10), BrokenThree.BAD);
        Due.is("row(0, 4, 10)", s.row(0, 4, 10), BrokenThree.NONE);
        Due.is("row(1, 0, 0)", s.row(1, 0, 0), 9);

        Due.promise(6, "row, as it is broken");
        s.row(1, 1, 3);
        s.row(1, 2, 2);
        s.row(1, 3, 4);
        Lay.mayIs(s, 1, "1,2,3,4,5,6,7,8");
        s.breaks(0, 2);
        Lay.mayIs(s, 1, "4,5,6,7,8");
        s.row(1, 1, 4);
        Lay.mayIs(s, 1, "1,2");
        s.breaks(0, 4);
        // 3 3 3, of which the one told is 2
        Lay.mayIs(s, 1, "7,8");
        s.breaks(0, 0);
        // 1 2 3 3: three are open, 4 modulo 3 is the middle one
        Lay.mayIs(s, 1, "4,5");
        s.breaks(0, 0);
        // 1 1 1 3 3: cuts 4, modulo 4 are 0
        Lay.mayIs(s, 1, "4,5");
        s.row(1, 0, 1);
        Lay.mayIs(s, 1, "7,8");
    }

    private static void told() {
        Due.promise(7, "told");
        BrokenThree s = Lay.stick("long 10;cuts 1;price 3 x>0;price 20 r>4;price 5 c=1;price 70 k=1;price 0 x>0", 0, 1);
        Due.is("told(0)", s.told(0), 10);
        Due.is("told(1)", s.told(1), 1);
        Due.is("told(2)", s.told(2), 1);
        Due.is("told(3)", s.told(3), 0);
        s.breaks(0, 4);
        Due.is("told(3), 3 + 20", s.told(3), 23);
        s.breaks(1, 0);
        Due.is("told(3), 3 + 5 + 70 more", s.told(3), 101);
        Due.is("told(2)", s.told(2), 3);
        s.breaks(0, 0);
        Due.is("told(3), 3 more", s.told(3), 104);
        Due.is("told(2), more than cuts to be made", s.told(2), 4);
        BrokenThree one = Lay.stick("long 10;price 3 x=2&l=9;price 4 r=1", 0);
        one.breaks(0, 0);
        one.breaks(0, 0);
        Due.is("told(3), 4, then 3 + 4", one.told(3), 11);
        Due.is("told(4)", s.told(4), BrokenThree.NONE);
        Due.is("told(-1)", s.told(-1), BrokenThree.NONE);
    }

    private static void piece() {
        Due.promise(8, "piece");
        BrokenThree s = Lay.stick("long 10", 0);
        Due.is("piece(0)", s.piece(0), 10);
        s.breaks(0, 6);
        s.breaks(0, 1);
        Due.is("piece(0)", s.piece(0), 2);
        Due.is("piece(1)", s.piece(1), 5);
        Due.is("piece(2)", s.piece(2), 3);
        Due.is("piece(3)", s.piece(3), BrokenThree.NONE);
        Due.is("piece(-1)", s.piece(-1), BrokenThree.NONE);
        s.breaks(0, 0);
        Due.is("piece(0)", s.piece(0), 1);
        Due.is("piece(1)", s.piece(1), 1);
        Due.is("piece(3)", s.piece(3), 3);
    }

    private static void breaks() {
        Due.promise(9, "breaks");
        BrokenThree s = Lay.stick("long 4", 0);
        Due.is("breaks(1, 0)", s.breaks(1, 0), BrokenThree.NONE);
        Due.is("breaks(1, 100)", s.breaks(1, 100), BrokenThree.NONE);
        Due.is("breaks(0, 100)", s.breaks(0, 100), BrokenThree.BAD);
        Due.is("breaks(0, -1)", s.breaks(0, -1), BrokenThree.BAD);
        Due.is("breaks(0, 99), modulo 3", s.breaks(0, 99), 1);
        Due.is("breaks(0, 99), modulo 2", s.breaks(0, 99), 3);
        Due.is("breaks(0, 99), modulo 1", s.breaks(0, 99), 2);
        Due.is("breaks(0, 99), none", s.breaks(0, 99), BrokenThree.STATE);
        Due.is("breaks(0, 100), none", s.breaks(0, 100), BrokenThree.BAD);
        Due.is("told(2)", s.told(2), 4);
    }

    private static void whole() {
        Due.promise(10, "whole");
        BrokenThree s = Lay.stick("long 4;price 2 x>0", 0);
        Due.is("whole()", s.whole(), 1);
        s.breaks(0, 0);
        s.breaks(0, 0);
        Due.is("told(3)", s.told(3), 4);
        Due.is("whole()", s.whole(), 3);
        Due.is("told(2)", s.told(2), 1);
        Due.is("told(3)", s.told(3), 0);
        Due.is("piece(0)", s.piece(0), 4);
    }

    private static void shape() {
        Due.promise(11, "shape");
        shapes("long 12", new int[] {3, 7}, 1, 1, 0, 5, 3);      // 3 4 5
        shapes("long 12", new int[] {5, 8}, 1, 1, 0, 5, 3);      // 5 3 4
        shapes("long 12", new int[] {4, 8}, 1, 0, 0, 4, 4);      // 4 4 4
        shapes("long 9", new int[] {2, 5}, 1, 0, 1, 4, 2);       // 2 3 4
        shapes("long 12", new int[] {2, 6}, 0, 0, 0, 6, 2);      // 2 4 6: flat
        shapes("long 12", new int[] {6}, 0, 0, 0, 6, 6);
        shapes("long 13", new int[] {1, 4, 8}, 1, 0, 0, 5, 1);   // 1 3 4 5: closes, no triangle
        shapes("long 12", new int[] {1, 3, 6}, 0, 0, 0, 6, 1);   // 1 2 3 6
        BrokenThree s = new BrokenThree();
        Due.is("shape(-1)", s.shape(-1), BrokenThree.NONE);
        Due.is("shape(5)", s.shape(5), BrokenThree.NONE);
    }

    private static void shapes(String yard, int[] places, int... want) {
        BrokenThree s = Lay.broken(Lay.stick(yard, 0), 0, places);
        for (int what = 0; what < want.length; what++) {
            Due.is("shape(" + what + ") of " + java.util.Arrays.toString(places), s.shape(what), want[what]);
        }
    }
}
