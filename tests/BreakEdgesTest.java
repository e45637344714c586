/** Promises 4 to 11, sentence by sentence: breakers, notches and breaks at the edges that the document names. */
public final class BreakEdgesTest {
    private static final int MIN = Integer.MIN_VALUE;
    private static final int MAX = Integer.MAX_VALUE;

    public static void main(String[] args) {
        breakersAtMost();
        kindsTaken();
        valuesTaken();
        ofWhat();
        ofNotches();
        rowsAtFirst();
        rowsApart();
        rowByCuts();
        rowByOpenPieces();
        toldWhat();
        toldCuts();
        spent();
        pricesAheadOfIt();
        pieceNumbers();
        inner();
        hardTogether();
        comparisons();
        letters();
        bindings();
        kindOfWhoBreaks();
        openPieces();
        longest();
        shortest();
        left();
        halving();
        thin();
        draws();
        noneToBreak();
        whole();
        closeOfThree();
        square();
        blunt();
        longestAndShortest();
        Due.end("BreakEdgesTest");
    }

    private static void breakersAtMost() {
        Due.promise(4, "numbered from 0 on, 6 at most");
        BrokenThree s = new BrokenThree();
        for (int number = 0; number < 6; number++) {
            Due.is("of(" + number + ", 0), too early", s.of(number, 0), BrokenThree.NONE);
            Due.is("breaker(" + number + ", 3)", s.breaker(number, 3 + number % 2), number);
            Due.is("count(0)", s.count(0), number + 1);
        }
        Due.is("breaker(6, 3), the seventh", s.breaker(6, 3), BrokenThree.FULL);
        Due.is("count(0)", s.count(0), 6);
        Due.is("of(6, 0)", s.of(6, 0), BrokenThree.NONE);
        for (int number = 0; number < 6; number++) {
            Due.is("of(" + number + ", 0)", s.of(number, 0), number);
            Due.is("of(" + number + ", 1)", s.of(number, 1), 3 + number % 2);
        }
    }

    private static void kindsTaken() {
        Due.promise(4, "each of a KIND: 0 .. 6");
        for (int kind = 0; kind <= 6; kind++) {
            BrokenThree s = new BrokenThree();
            Due.is("breaker(" + kind + ", 0)", s.breaker(kind, 0), 0);
            Due.is("of(0, 0)", s.of(0, 0), kind);
        }
        BrokenThree s = new BrokenThree();
        for (int kind : new int[] {-1, 7, MIN, MAX}) {
            Due.is("breaker(" + kind + ", 0)", s.breaker(kind, 0), BrokenThree.NONE);
        }
        Due.is("count(0)", s.count(0), 0);
    }

    private static void valuesTaken() {
        Due.promise(4, "a number v (0 .. 9)");
        for (int v = 0; v <= 9; v++) {
            BrokenThree s = new BrokenThree();
            Due.is("breaker(0, " + v + ")", s.breaker(0, v), 0);
            Due.is("of(0, 1)", s.of(0, 1), v);
        }
        BrokenThree s = new BrokenThree();
        for (int v : new int[] {-1, 10, MIN, MAX}) {
            Due.is("breaker(6, " + v + ")", s.breaker(6, v), BrokenThree.BAD);
        }
        Due.is("count(0)", s.count(0), 0);
    }

    private static void ofWhat() {
        Due.promise(5, "what 0, 1, 2, 10 and k");
        BrokenThree s = Lay.stick("long 8", 0);
        s.breaker(4, 9);
        Due.is("of(1, 0)", s.of(1, 0), 4);
        Due.is("of(1, 1)", s.of(1, 1), 9);
        Due.is("of(1, 2)", s.of(1, 2), 1);
        Due.is("of(1, 10)", s.of(1, 10), 4);
        for (int what : new int[] {-1, 3, 4, 5, 6, 7, 8, 9, 11, 99, MIN, MAX}) {
            Due.is("of(1, " + what + ")", s.of(1, what), BrokenThree.NONE);
        }
        for (int breaker : new int[] {-1, 2, 6, MIN, MAX}) {
            for (int what : new int[] {0, 1, 2, 10, 3}) {
                Due.is("of(" + breaker + ", " + what + ")", s.of(breaker, what), BrokenThree.NONE);
            }
        }
    }

    private static void ofNotches() {
        Due.promise(5, "the k-th of these, from the left");
        BrokenThree s = Lay.stick("long 17", 0);
        Due.is("of(0, 2)", s.of(0, 2), 16);
        for (int k = 0; k < 16; k++) {
            Due.is("of(0, " + (10 + k) + ")", s.of(0, 10 + k), k + 1);
        }
        Due.is("of(0, 26)", s.of(0, 26), BrokenThree.NONE);
        Due.is("of(0, 27)", s.of(0, 27), BrokenThree.NONE);
        s = Lay.stick("long 2", 0);
        Due.is("of(0, 2)", s.of(0, 2), 1);
        Due.is("of(0, 10)", s.of(0, 10), 1);
        Due.is("of(0, 11)", s.of(0, 11), BrokenThree.NONE);
        Lay.broken(s, 0, 1);
        Due.is("of(0, 2), of none", s.of(0, 2), 0);
        Due.is("of(0, 10), of none", s.of(0, 10), BrokenThree.NONE);
        Due.is("of(0, 9), of none", s.of(0, 9), BrokenThree.NONE);
    }

    private static void rowsAtFirst() {
        Due.promise(6, "a ROW of four numbers (0 .. 9; 0 at first)");
        BrokenThree s = Lay.stick("long 9", 6);
        for (int k = 0; k < 4; k++) {
            Due.is("row(0, " + k + ", 9)", s.row(0, k, 9), 0);
            Due.is("row(0, " + k + ", 0)", s.row(0, k, 0), 9);
        }
        for (int k : new int[] {-1, 4, MIN, MAX}) {
            Due.is("row(0, " + k + ", 1)", s.row(0, k, 1), BrokenThree.NONE);
        }
        for (int n : new int[] {-1, 10, MIN, MAX}) {
            Due.is("row(0, 3, " + n + ")", s.row(0, 3, n), BrokenThree.BAD);
        }
        Due.is("row(0, 3, 0)", s.row(0, 3, 0), 0);
        // whoever had the number before
        s.image();
        s.breaker(6, 0);
        for (int k = 0; k < 4; k++) {
            s.row(1, k, 7);
        }
        s.undo();
        Due.is("breaker(6, 0)", s.breaker(6, 0), 1);
        for (int k = 0; k < 4; k++) {
            Due.is("row(1, " + k + ", 0) of a new one", s.row(1, k, 0), 0);
        }
    }

    private static void rowsApart() {
        Due.promise(6, "each has its own row");
        BrokenThree s = Lay.stick("long 9", 6, 6, 6, 6, 6, 6);
        for (int breaker = 0; breaker < 6; breaker++) {
            for (int k = 0; k < 4; k++) {
                Due.is("row(" + breaker + ", " + k + ", ..)", s.row(breaker, k, (3 * breaker + k) % 10), 0);
            }
        }
        for (int breaker = 0; breaker < 6; breaker++) {
            for (int k = 0; k < 4; k++) {
                Due.is("row(" + breaker + ", " + k + ", 0)", s.row(breaker, k, 0), (3 * breaker + k) % 10);
            }
        }
        Due.promise(6, "STATE: another kind");
        for (int kind = 0; kind < 6; kind++) {
            Due.is("row(0, 0, 0) of kind " + kind, Lay.stick("long 9", kind).row(0, 0, 0), BrokenThree.STATE);
            Due.is("row(0, 3, 9) of kind " + kind, Lay.stick("long 9", kind).row(0, 3, 9), BrokenThree.STATE);
        }
    }

    private static void rowByCuts() {
        Due.promise(6, "its ROW at CUTS that there are, modulo 4");
        // ones and twos: the more cuts, the more pieces of two are open; row k leads to the k-th of them
        BrokenThree s = Lay.stick("long 17", 0, 6);
        for (int k = 0; k < 4; k++) {
            s.row(1, k, 3 - k);
        }
        Lay.broken(s, 0, 3, 6, 9, 12);
        Lay.mayIs(s, 1, "10,11");
        Due.is("told(2)", s.told(2), 5);
        Lay.broken(s, 0, 16);
        Lay.mayIs(s, 1, "7,8");
        Lay.broken(s, 0, 1);
        Lay.mayIs(s, 1, "4,5");
        Lay.broken(s, 0, 14);
        Lay.mayIs(s, 1, "2");
        Lay.broken(s, 0, 2);
        Due.is("told(2), eight cuts", s.told(2), 9);
        Lay.mayIs(s, 1, "13");
        s.whole();
        Lay.mayIs(s, 1, "1,2,3,4,5,6,7,8,9,10,11,12,13,14,15,16");
        Lay.broken(s, 0, 8);
        Due.is("one cut: row 2, of two pieces the first", s.of(1, 2), 7);
        Lay.mayIs(s, 1, "1,2,3,4,5,6,7");
        Lay.broken(s, 0, 12);
        Lay.mayIs(s, 1, "9,10,11");
        Lay.broken(s, 0, 4);
        // three cuts: row 3 is 0
        Lay.mayIs(s, 1, "1,2,3");
    }

    private static void rowByOpenPieces() {
        Due.promise(6, "modulo how many OPEN PIECES there are");
        BrokenThree s = Lay.stick("long 17", 0, 6);
        for (int k = 0; k < 4; k++) {
            s.row(1, k, 9);
        }
        Lay.mayIs(s, 1, "1,2,3,4,5,6,7,8,9,10,11,12,13,14,15,16");
        Lay.broken(s, 0, 4);
        Lay.mayIs(s, 1, "5,6,7,8,9,10,11,12,13,14,15,16");
        Lay.broken(s, 0, 8);
        // 9 modulo 3
        Lay.mayIs(s, 1, "1,2,3");
        Lay.broken(s, 0, 12);
        Lay.mayIs(s, 1, "5,6,7");
        Lay.broken(s, 0, 14);
        // 9 modulo 5: the last one
        Lay.mayIs(s, 1, "15,16");
        Lay.broken(s, 0, 13, 3);
        // 3 1 4 4 1 1 3, the ones not being open: 9 modulo 4
        Lay.mayIs(s, 1, "5,6,7");
        s.row(1, 2, 3);
        Lay.mayIs(s, 1, "15,16");
        s.row(1, 2, 4);
        Lay.mayIs(s, 1, "1,2");
        Due.promise(6, "pieces that are hard all over have no number");
        BrokenThree hard = Lay.broken(Lay.stick("long 12;hard 1 l=4;hard 1 k=6&x>9", 0, 6), 0, 4);
        hard.row(1, 1, 0);
        Lay.mayIs(hard, 1, "5,6,7,8,9");
        hard.row(1, 1, 1);
        Lay.mayIs(hard, 1, "5,6,7,8,9");
        Lay.broken(hard, 0, 9);
        // 4 5 3: for breaker 1 the 5 alone is open
        Lay.mayIs(hard, 1, "5,6,7,8");
        Lay.mayIs(hard, 0, "5,6,7,8,10,11");
        BrokenThree none = Lay.stick("long 5;hard 1 k=6", 6);
        none.row(0, 0, 9);
        Lay.mayIs(none, 0, "");
        Due.is("breaks(0, 0)", none.breaks(0, 0), BrokenThree.STATE);
    }

    private static void toldWhat() {
        Due.promise(7, "what 0 .. 3");
        BrokenThree s = Lay.broken(Lay.stick("long 9;cuts 1;price 8 x=4", 0), 0, 4);
        int[] due = {9, 1, 2, 8};
        for (int what = 0; what <= 3; what++) {
            Due.is("told(" + what + ")", s.told(what), due[what]);
        }
        for (int what : new int[] {-1, 4, MIN, MAX}) {
            Due.is("told(" + what + ")", s.told(what), BrokenThree.NONE);
        }
    }

    private static void toldCuts() {
        Due.promise(7, "how many pieces: by hand more than CUTS to make");
        BrokenThree s = Lay.stick("long 17;cuts 1", 0);
        for (int pieces = 1; pieces <= 17; pieces++) {
            Due.is("told(2)", s.told(2), pieces);
            Due.is("breaks(0, 0)", s.breaks(0, 0), pieces < 17 ? pieces : BrokenThree.STATE);
        }
        Due.is("told(2)", s.told(2), 17);
        Due.is("told(1)", s.told(1), 1);
        Due.is("told(0)", s.told(0), 17);
    }

    private static void spent() {
        Due.promise(7, "what BREAKS cost so far since the stick was whole");
        BrokenThree s = Lay.stick("long 9;price 99 x>0;price 99 x<9;price 1 x=4;price 0 x=4;price 7 x=5", 0);
        Due.is("told(3)", s.told(3), 0);
        Lay.broken(s, 0, 4);
        Due.is("told(3), of the first", s.told(3), 199);
        Lay.broken(s, 0, 5);
        Due.is("told(3), of the second", s.told(3), 199 + 205);
        Lay.broken(s, 0, 1);
        Due.is("told(3), of the third", s.told(3), 199 + 205 + 198);
        Due.is("breaks(0, 100), refused", s.breaks(0, 100), BrokenThree.BAD);
        Due.is("told(3)", s.told(3), 602);
        s.whole();
        Due.is("told(3), whole", s.told(3), 0);
        Lay.broken(s, 0, 5);
        Due.is("told(3)", s.told(3), 205);
        BrokenThree dear = Lay.stick("long 17;price 99 x>0;price 99 l>0;price 99 r>0;price 99 c<99;price 99 k<9;price 99 x<99", 0);
        for (int i = 0; i < 16; i++) {
            dear.breaks(0, 99);
        }
        Due.is("told(3) of 16 breaks", dear.told(3), 16 * 6 * 99);
    }

    private static void pricesAheadOfIt() {
        Due.promise(7, "COST of a BREAK: ahead of it");
        BrokenThree s = Lay.stick("long 9;price 1 c=0;price 10 l=9;price 20 r=4;price 50 l=4&r=1", 0, 4);
        Lay.broken(s, 0, 4);
        Due.is("told(3), by cuts, length and end as they were", s.told(3), 31);
        Lay.broken(s, 0, 1);
        Due.is("told(3)", s.told(3), 81);
        BrokenThree kinds = Lay.stick("long 9;price 3 k=4;price 5 k=0;price 7 k>4", 0, 4);
        Lay.broken(kinds, 0, 4);
        Due.is("told(3), by kind 0", kinds.told(3), 5);
        kinds.breaks(1, 0);
        Due.is("told(3), by kind 4", kinds.told(3), 8);
        BrokenThree none = Lay.stick("long 9;price 0 x>0;price 5 x=8;hard 0 x>0;hard 5 x=7", 0);
        Lay.broken(none, 0, 4);
        Due.is("told(3), of no price and of what is hard", none.told(3), 0);
    }

    private static void pieceNumbers() {
        Due.promise(8, "the k-th piece, from the left");
        BrokenThree s = Lay.stick("long 10", 0);
        Due.is("piece(0)", s.piece(0), 10);
        Due.is("piece(1)", s.piece(1), BrokenThree.NONE);
        Lay.broken(s, 0, 9, 1, 4);
        int[] due = {1, 3, 5, 1};
        for (int k = 0; k < 4; k++) {
            Due.is("piece(" + k + ")", s.piece(k), due[k]);
        }
        for (int k : new int[] {-1, 4, 17, MIN, MAX}) {
            Due.is("piece(" + k + ")", s.piece(k), BrokenThree.NONE);
        }
        BrokenThree all = Lay.stick("long 17", 0);
        for (int i = 0; i < 16; i++) {
            all.breaks(0, 0);
        }
        for (int k = 0; k < 17; k++) {
            Due.is("piece(" + k + ")", all.piece(k), 1);
        }
        Due.is("piece(17)", all.piece(17), BrokenThree.NONE);
    }

    private static void inner() {
        Due.promise(5, "inner notches: one less than its length");
        BrokenThree s = Lay.stick("long 17", 0);
        Lay.broken(s, 0, 1);
        Lay.mayIs(s, 0, "2,3,4,5,6,7,8,9,10,11,12,13,14,15,16");
        Lay.broken(s, 0, 16, 8, 10);
        Lay.mayIs(s, 0, "2,3,4,5,6,7,9,11,12,13,14,15");
        Lay.broken(s, 0, 9);
        Lay.mayIs(s, 0, "2,3,4,5,6,7,11,12,13,14,15");
    }

    private static void hardTogether() {
        Due.promise(5, "hard, if the n of all hard whose E holds are above 0, together");
        Lay.mayIs(Lay.stick("long 6;hard 0 x>0", 0), 0, "1,2,3,4,5");
        Lay.mayIs(Lay.stick("long 6;hard 0 x>0;hard 0 x>0", 0), 0, "1,2,3,4,5");
        Lay.mayIs(Lay.stick("long 6;hard 1 x>0", 0), 0, "");
        Lay.mayIs(Lay.stick("long 6;hard 99 x>0", 0), 0, "");
        Lay.mayIs(Lay.stick("long 6;hard 0 x>0;hard 1 x>3", 0), 0, "1,2,3");
        Lay.mayIs(Lay.stick("long 6;hard 1 x>3;hard 0 x>0", 0), 0, "1,2,3");
        Lay.mayIs(Lay.stick("long 6;hard 2 x=1;hard 1 x=5", 0), 0, "2,3,4");
        Lay.mayIs(Lay.stick("long 6;hard 2 x=1&x=5", 0), 0, "1,2,3,4,5");
        Lay.mayIs(Lay.stick("long 6;price 9 x>0", 0), 0, "1,2,3,4,5");
        Lay.mayIs(Lay.stick("long 6;price 9 x=2;hard 1 x=3;price 9 x=4;hard 1 x=5", 0), 0, "1,2,4");
        Lay.mayIs(Lay.stick("hard 1 x=3;long 6", 0), 0, "1,2,4,5");
    }

    private static void comparisons() {
        Due.promise(5, "one of < = >");
        Lay.mayIs(Lay.stick("long 6;hard 1 x<3", 0), 0, "3,4,5");
        Lay.mayIs(Lay.stick("long 6;hard 1 x=3", 0), 0, "1,2,4,5");
        Lay.mayIs(Lay.stick("long 6;hard 1 x>3", 0), 0, "1,2,3");
        Lay.mayIs(Lay.stick("long 6;hard 1 x<1", 0), 0, "1,2,3,4,5");
        Lay.mayIs(Lay.stick("long 6;hard 1 x>5", 0), 0, "1,2,3,4,5");
        Lay.mayIs(Lay.stick("long 6;hard 1 x<99", 0), 0, "");
        Lay.mayIs(Lay.stick("long 6;hard 1 x>99", 0), 0, "1,2,3,4,5");
        Lay.mayIs(Lay.stick("long 6;hard 1 x<0", 0), 0, "1,2,3,4,5");
        Lay.mayIs(Lay.stick("long 6;hard 1 x=0", 0), 0, "1,2,3,4,5");
        Lay.mayIs(Lay.stick("long 6;hard 1 x>0", 0), 0, "");
        Lay.mayIs(Lay.stick("long 6;hard 1 x<0|x=1", 0), 0, "2,3,4,5");
        Lay.mayIs(Lay.stick("long 6;hard 1 x=1|x<0", 0), 0, "2,3,4,5");
        Lay.mayIs(Lay.stick("long 6;hard 1 x=1;hard 1 x<0", 0), 0, "2,3,4,5");
        Lay.mayIs(Lay.stick("long 6;hard 1 !x<0", 0), 0, "");
        Lay.mayIs(Lay.stick("long 6;hard 1 !x<0&x>2", 0), 0, "1,2");
        Lay.mayIs(Lay.stick("long 17;hard 1 x<10", 0), 0, "10,11,12,13,14,15,16");
        Lay.mayIs(Lay.stick("long 17;hard 1 x>10", 0), 0, "1,2,3,4,5,6,7,8,9,10");
        Lay.mayIs(Lay.stick("long 17;hard 1 !x=16", 0), 0, "16");
    }

    private static void letters() {
        Due.promise(5, "r how far it is from the nearer end of its piece");
        Lay.mayIs(Lay.stick("long 8;hard 1 r=4", 0), 0, "1,2,3,5,6,7");
        Lay.mayIs(Lay.stick("long 8;hard 1 r=1", 0), 0, "2,3,4,5,6");
        Lay.mayIs(Lay.stick("long 8;hard 1 r<4", 0), 0, "4");
        Lay.mayIs(Lay.stick("long 8;hard 1 r>4", 0), 0, "1,2,3,4,5,6,7");
        Lay.mayIs(Lay.stick("long 8;hard 1 r<1", 0), 0, "1,2,3,4,5,6,7");
        Lay.mayIs(Lay.stick("long 7;hard 1 r>2", 0), 0, "1,2,5,6");
        BrokenThree s = Lay.stick("long 12;hard 1 c>0&r=1", 0);
        Lay.broken(s, 0, 4);
        Lay.mayIs(s, 0, "2,6,7,8,9,10");
        Due.promise(5, "x its place");
        s = Lay.stick("long 12;hard 1 c>0&!(x=4|x=9)", 0);
        Lay.broken(s, 0, 6);
        Lay.mayIs(s, 0, "4,9");
        Due.promise(5, "l the length of that piece");
        s = Lay.stick("long 12;hard 1 l=5;hard 1 l<5&l>3", 0);
        Lay.mayIs(s, 0, "1,2,3,4,5,6,7,8,9,10,11");
        Lay.broken(s, 0, 5);
        Lay.mayIs(s, 0, "6,7,8,9,10,11");
        Lay.broken(s, 0, 8);
        Lay.mayIs(s, 0, "6,7");
        Due.promise(5, "c how many CUTS there are (pieces less 1)");
        s = Lay.stick("long 12;hard 1 c=0&x<3|c=1&x>10|c=2&x=5|c>2&x=6", 0);
        Lay.mayIs(s, 0, "3,4,5,6,7,8,9,10,11");
        Lay.broken(s, 0, 3);
        Lay.mayIs(s, 0, "1,2,4,5,6,7,8,9,10");
        Lay.broken(s, 0, 1);
        Lay.mayIs(s, 0, "2,4,6,7,8,9,10,11");
        Lay.broken(s, 0, 2);
        Lay.mayIs(s, 0, "4,5,7,8,9,10,11");
        Lay.broken(s, 0, 5);
        Lay.mayIs(s, 0, "4,7,8,9,10,11");
    }

    private static void bindings() {
        Due.promise(5, "E: T, or T|E. T: F, or F&T. F: !F, (E), or a test");
        Lay.mayIs(Lay.stick("long 6;hard 1 x=1|x=2&x=3", 0), 0, "2,3,4,5");
        Lay.mayIs(Lay.stick("long 6;hard 1 (x=1|x=2)&x=2", 0), 0, "1,3,4,5");
        Lay.mayIs(Lay.stick("long 6;hard 1 x=3&x=2|x=1", 0), 0, "2,3,4,5");
        Lay.mayIs(Lay.stick("long 6;hard 1 x=2&(x=2|x=1)", 0), 0, "1,3,4,5");
        Lay.mayIs(Lay.stick("long 6;hard 1 !x=1&x<3", 0), 0, "1,3,4,5");
        Lay.mayIs(Lay.stick("long 6;hard 1 !(x=1&x<3)", 0), 0, "1");
        Lay.mayIs(Lay.stick("long 6;hard 1 !x=1|x<3", 0), 0, "");
        Lay.mayIs(Lay.stick("long 6;hard 1 !(x=1|x<3)", 0), 0, "1,2");
        Lay.mayIs(Lay.stick("long 6;hard 1 !!x=2", 0), 0, "1,3,4,5");
        Lay.mayIs(Lay.stick("long 6;hard 1 !!!x=2", 0), 0, "2");
        Lay.mayIs(Lay.stick("long 6;hard 1 !!!!!x=2", 0), 0, "2");
        Lay.mayIs(Lay.stick("long 6;hard 1 x<4|x<3", 0), 0, "4,5");
        Lay.mayIs(Lay.stick("long 6;hard 1 x<4&x<3&x<2", 0), 0, "2,3,4,5");
        Lay.mayIs(Lay.stick("long 6;hard 1 x=1|x=3|x=5", 0), 0, "2,4");
        Lay.mayIs(Lay.stick("long 6;hard 1 (((((x=4)))))", 0), 0, "1,2,3,5");
    }

    private static void kindOfWhoBreaks() {
        Due.promise(5, "k KIND of who breaks");
        for (int kind = 0; kind <= 6; kind++) {
            BrokenThree s = Lay.stick("long 4;hard 1 k=" + kind + "&x<3", 0, 1, 2, 3, 4, 5);
            for (int breaker = 0; breaker <= 5; breaker++) {
                Due.is("notches of kind " + breaker + ", " + kind + " being hindered", s.of(breaker, 2),
                        breaker == kind ? 1 : breaker == 4 ? 1 : 3);
                Due.is("first notch of kind " + breaker, s.of(breaker, 10), breaker == kind ? 3 : breaker == 4 ? 2 : 1);
            }
        }
        BrokenThree s = Lay.stick("long 4;hard 1 k=6&x<3", 6, 5);
        Lay.mayIs(s, 0, "3");
        Lay.mayIs(s, 1, "1,2,3");
        s = Lay.stick("long 4;hard 1 k>5&x<3;hard 1 k<1&x>1", 6, 5, 0, 1);
        Lay.mayIs(s, 0, "3");
        Lay.mayIs(s, 1, "1,2,3");
        Lay.mayIs(s, 2, "1");
        Lay.mayIs(s, 3, "1,2,3");
    }

    private static void openPieces() {
        Due.promise(5, "a piece is OPEN, if it has a FREE NOTCH");
        // 1 2 9: the one has no notch, the two's is hard
        BrokenThree s = Lay.stick("long 12;hard 1 c=2&x=2;hard 1 c=2&x>8", 0, 1, 2, 3);
        Lay.broken(s, 0, 1, 3);
        for (int breaker = 0; breaker <= 3; breaker++) {
            Lay.mayIs(s, breaker, "4,5,6,7,8");
        }
        Due.promise(5, "FREE for a breaker: the same piece is open for one and not for another");
        s = Lay.stick("long 9;hard 1 k=1&l=5;hard 1 k=2&l=4;hard 1 k=3&l=4", 0, 1, 2, 3);
        Lay.broken(s, 0, 4);
        Lay.mayIs(s, 1, "1,2,3");
        Lay.mayIs(s, 2, "5,6,7,8");
        Lay.mayIs(s, 3, "5,6,7,8");
        Due.promise(5, "no piece is open");
        s = Lay.broken(Lay.stick("long 9;hard 1 c>0", 0, 1, 2, 3, 4, 5), 0, 4);
        for (int breaker = 0; breaker <= 5; breaker++) {
            Lay.mayIs(s, breaker, "");
            Due.is("breaks(" + breaker + ", 0)", s.breaks(breaker, 0), BrokenThree.STATE);
        }
        Due.text("pieces", Lay.pieces(s), "4,5");
    }

    private static void longest() {
        Due.promise(5, "LONGEST: of several the leftmost");
        Lay.mayIs(Lay.broken(Lay.stick("long 9", 1, 0), 1, 3, 6), 0, "1,2");
        Lay.mayIs(Lay.broken(Lay.stick("long 10", 1, 0), 1, 3, 6), 0, "7,8,9");
        Lay.mayIs(Lay.broken(Lay.stick("long 10", 1, 0), 1, 2, 6), 0, "3,4,5");
        Lay.mayIs(Lay.broken(Lay.stick("long 10", 1, 0), 1, 4, 6), 0, "1,2,3");
        Lay.mayIs(Lay.broken(Lay.stick("long 3", 1, 0), 1, 1), 0, "2");
        // what was asked of longer pieces before is no matter
        BrokenThree s = Lay.broken(Lay.stick("long 17", 1, 0), 1, 2);
        Lay.mayIs(s, 0, "3,4,5,6,7,8,9,10,11,12,13,14,15,16");
        Due.is("yard()", Lay.yard(s, "long 5"), 1);
        Lay.mayIs(s, 0, "1,2,3,4");
    }

    private static void shortest() {
        Due.promise(5, "SHORTEST: likewise");
        Lay.mayIs(Lay.broken(Lay.stick("long 9", 2, 0), 1, 3, 6), 0, "1,2");
        Lay.mayIs(Lay.broken(Lay.stick("long 8", 2, 0), 1, 3, 6), 0, "7");
        Lay.mayIs(Lay.broken(Lay.stick("long 8", 2, 0), 1, 3, 5), 0, "4");
        Lay.mayIs(Lay.broken(Lay.stick("long 8", 2, 0), 1, 2, 5), 0, "1");
        // a piece of one has no notch
        Lay.mayIs(Lay.broken(Lay.stick("long 8", 2, 0), 1, 1, 4), 0, "2,3");
        Lay.mayIs(Lay.broken(Lay.stick("long 8", 2, 0), 1, 1, 3), 0, "2");
        // what was asked of shorter pieces before is no matter
        BrokenThree s = Lay.broken(Lay.stick("long 9", 2, 0), 1, 7);
        Lay.mayIs(s, 0, "8");
        s.whole();
        Lay.mayIs(s, 0, "1,2,3,4,5,6,7,8");
    }

    private static void left() {
        Due.promise(5, "LEFT: those of the leftmost OPEN PIECE");
        Lay.mayIs(Lay.broken(Lay.stick("long 9", 3, 0), 1, 3, 6), 0, "1,2");
        Lay.mayIs(Lay.broken(Lay.stick("long 9", 3, 0), 1, 1, 6), 0, "2,3,4,5");
        Lay.mayIs(Lay.broken(Lay.stick("long 9", 3, 0), 1, 1, 2, 8), 0, "3,4,5,6,7");
        Lay.mayIs(Lay.broken(Lay.stick("long 3", 3, 0), 1, 1), 0, "2");
    }

    private static void halving() {
        Due.promise(5, "HALVING: farthest from the nearer end");
        Lay.mayIs(Lay.stick("long 2", 4), 0, "1");
        Lay.mayIs(Lay.stick("long 3", 4), 0, "1,2");
        Lay.mayIs(Lay.stick("long 16", 4), 0, "8");
        Lay.mayIs(Lay.stick("long 17", 4), 0, "8,9");
        Lay.mayIs(Lay.stick("long 17;hard 1 r>3", 4), 0, "3,14");
        Lay.mayIs(Lay.stick("long 17;hard 1 r>3|x=3", 4), 0, "14");
        Lay.mayIs(Lay.stick("long 17;hard 1 r>1", 4), 0, "1,16");
        Lay.mayIs(Lay.stick("long 9;hard 1 x>0", 4), 0, "");
        // of the leftmost of the longest
        Lay.mayIs(Lay.broken(Lay.stick("long 9", 4, 0), 1, 4, 5), 0, "2");
        Lay.mayIs(Lay.broken(Lay.stick("long 9", 4, 0), 1, 3, 4), 0, "6,7");
    }

    private static void thin() {
        Due.promise(5, "THIN: as SHORTEST, but of pieces longer than v alone");
        String[] due = {"1", "1", "3,4", "6,7,8", "", ""};
        for (int v = 0; v <= 5; v++) {
            BrokenThree s = Lay.stick("long 9", 0);
            s.breaker(5, v);
            Lay.broken(s, 0, 2, 5);
            Lay.mayIs(s, 1, due[v]);
        }
        // of several the leftmost; and what is longer, but not open, is none
        BrokenThree s = Lay.stick("long 12;hard 1 l=3", 0);
        s.breaker(5, 2);
        Lay.broken(s, 0, 3, 7, 11);
        Lay.mayIs(s, 1, "4,5,6");
        for (int length = 9; length <= 10; length++) {
            s = Lay.stick("long " + length);
            s.breaker(5, 9);
            Due.is("notches of a whole stick of " + length, s.of(0, 2), length == 9 ? 0 : 9);
            Due.is("breaks(0, 0)", s.breaks(0, 0), length == 9 ? BrokenThree.STATE : 1);
        }
    }

    private static void draws() {
        Due.promise(9, "draw 0 .. 99, modulo how many there are");
        for (int draw = 0; draw <= 99; draw++) {
            Due.is("breaks(0, " + draw + ")", Lay.stick("long 17", 0).breaks(0, draw), draw % 16 + 1);
        }
        BrokenThree s = Lay.stick("long 12;hard 1 x=1|x=4|x>9", 0);
        // 2,3,5,6,7,8,9
        Due.is("breaks(0, 6), the last", s.breaks(0, 6), 9);
        Due.is("breaks(0, 6), the first of six", s.breaks(0, 6), 2);
        Due.is("breaks(0, 5), the first of five", s.breaks(0, 5), 3);
        for (int draw : new int[] {-1, 100, MIN, MAX}) {
            Due.is("breaks(0, " + draw + ")", s.breaks(0, draw), BrokenThree.BAD);
        }
        Due.text("pieces", Lay.pieces(s), "2,1,6,3");
        for (int breaker : new int[] {-1, 1, 6, MIN, MAX}) {
            Due.is("breaks(" + breaker + ", 0)", s.breaks(breaker, 0), BrokenThree.NONE);
        }
        Due.text("pieces", Lay.pieces(s), "2,1,6,3");
    }

    private static void noneToBreak() {
        Due.promise(9, "STATE: there are none");
        BrokenThree s = Lay.stick("long 4;price 3 x>0", 0, 1, 2, 3, 4, 5);
        Lay.broken(s, 0, 1, 2, 3);
        for (int breaker = 0; breaker <= 5; breaker++) {
            Due.is("breaks(" + breaker + ", 0)", s.breaks(breaker, 0), BrokenThree.STATE);
            Due.is("breaks(" + breaker + ", 99)", s.breaks(breaker, 99), BrokenThree.STATE);
        }
        Due.is("told(3), of three", s.told(3), 9);
        Due.text("pieces", Lay.pieces(s), "1,1,1,1");
        Due.is("breaks(0, 0), whole again", s.whole() == 4 ? s.breaks(0, 0) : 0, 1);
        // one may not, another may
        s = Lay.stick("long 9", 0);
        s.breaker(5, 9);
        Due.is("breaks(1, 0)", s.breaks(1, 0), BrokenThree.STATE);
        Due.is("breaks(0, 0)", s.breaks(0, 0), 1);
    }

    private static void whole() {
        Due.promise(10, "the stick is whole: how many pieces there were");
        BrokenThree s = Lay.stick("long 17;price 2 x>0", 0);
        Due.is("whole() of one piece", s.whole(), 1);
        Due.text("pieces", Lay.pieces(s), "17");
        for (int i = 0; i < 16; i++) {
            s.breaks(0, 0);
        }
        Due.is("told(3)", s.told(3), 32);
        Due.is("whole() of 17", s.whole(), 17);
        Due.text("pieces", Lay.pieces(s), "17");
        Due.is("told(3)", s.told(3), 0);
        Due.is("of(0, 2)", s.of(0, 2), 16);
        Due.is("whole()", s.whole(), 1);
        Due.is("count(1), the yard holding", s.count(1), 1);
    }

    private static void shapeIs(int length, int[] places, int... want) {
        BrokenThree s = Lay.broken(Lay.stick("long " + length, 0), 0, places);
        for (int what = 0; what < want.length; what++) {
            Due.is("shape(" + what + ") of " + Lay.pieces(s), s.shape(what), want[what]);
        }
    }

    private static int[] at(int... places) {
        return places;
    }

    private static void closeOfThree() {
        Due.promise(11, "pieces CLOSE, if there are 3 or more");
        shapeIs(12, at(), 0, 0, 0, 12, 12);
        shapeIs(12, at(6), 0, 0, 0, 6, 6);
        shapeIs(2, at(1), 0, 0, 0, 1, 1);
        shapeIs(3, at(1, 2), 1, 0, 0, 1, 1);
        shapeIs(4, at(1, 2, 3), 1, 0, 0, 1, 1);
        Due.promise(11, "the longest is shorter than all others together");
        shapeIs(12, at(5, 10), 1, 0, 0, 5, 2);
        shapeIs(12, at(6, 8), 0, 0, 0, 6, 2);
        shapeIs(12, at(3, 9), 0, 0, 0, 6, 3);
        shapeIs(12, at(2, 5), 0, 0, 0, 7, 2);
        shapeIs(12, at(5, 6), 0, 0, 0, 6, 1);
        shapeIs(11, at(5, 6), 1, 0, 0, 5, 1);
        shapeIs(12, at(2, 4, 6), 0, 0, 0, 6, 2);
        shapeIs(13, at(2, 4, 7), 1, 0, 0, 6, 2);
        shapeIs(17, at(1, 2, 3, 4, 5, 6, 7, 8, 9, 10, 11, 12, 13, 14, 15, 16), 1, 0, 0, 1, 1);
        shapeIs(17, at(1, 2, 3, 4, 5, 6, 7, 8, 9), 1, 0, 0, 8, 1);
        shapeIs(17, at(1, 2, 3, 4, 5, 6, 7, 8), 0, 0, 0, 9, 1);
    }

    private static void square() {
        Due.promise(11, "SQUARE: there are 3, and the squares of the lesser two are as much as that of the longest");
        shapeIs(12, at(3, 7), 1, 1, 0, 5, 3);
        shapeIs(12, at(5, 9), 1, 1, 0, 5, 3);
        shapeIs(12, at(4, 9), 1, 1, 0, 5, 3);
        shapeIs(12, at(2, 7), 1, 0, 0, 5, 2);
        // 3 4 4 5: four, though 9 and 16 are 25
        shapeIs(16, at(3, 7, 11), 1, 0, 0, 5, 3);
        // 3 4 5 1 and the like
        shapeIs(13, at(3, 7, 12), 1, 0, 0, 5, 1);
        shapeIs(17, at(5, 8, 13), 1, 0, 0, 5, 3);
    }

    private static void blunt() {
        Due.promise(11, "BLUNT: there are 3, they CLOSE, and these squares are less");
        shapeIs(9, at(2, 5), 1, 0, 1, 4, 2);
        shapeIs(9, at(4, 6), 1, 0, 1, 4, 2);
        shapeIs(12, at(3, 7), 1, 1, 0, 5, 3);
        shapeIs(13, at(4, 8), 1, 0, 0, 5, 4);
        shapeIs(11, at(3, 6), 1, 0, 1, 5, 3);
        shapeIs(11, at(1, 6), 1, 0, 0, 5, 1);
        // they do not close: flat, and too short
        shapeIs(10, at(2, 5), 0, 0, 0, 5, 2);
        shapeIs(10, at(2, 4), 0, 0, 0, 6, 2);
        // 2 2 2 5: four that close, 4 and 4 are less than 25
        shapeIs(11, at(2, 4, 6), 1, 0, 0, 5, 2);
        shapeIs(9, at(4), 0, 0, 0, 5, 4);
    }

    private static void longestAndShortest() {
        Due.promise(11, "3 the longest, 4 the shortest");
        shapeIs(17, at(16), 0, 0, 0, 16, 1);
        shapeIs(17, at(1), 0, 0, 0, 16, 1);
        shapeIs(17, at(5, 12), 1, 0, 0, 7, 5);
        BrokenThree s = new BrokenThree();
        for (int what : new int[] {-1, 5, MIN, MAX}) {
            Due.is("shape(" + what + ")", s.shape(what), BrokenThree.NONE);
        }
    }
}
