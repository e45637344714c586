/** Promises 23 to 30, sentence by sentence: rows told back and the book, at the edges that the document names. */
public final class RowEdgesTest {
    private static final int MIN = Integer.MIN_VALUE;
    private static final int MAX = Integer.MAX_VALUE;

    public static void main(String[] args) {
        lengthsTaken();
        fourAtMost();
        emptied();
        nobodyAsked();
        emptyRow();
        togetherLength();
        noMorePieces();
        fewerPieces();
        wholeRow();
        ordersAsTheyMay();
        ordersByHand();
        ordersMost();
        chanceParts();
        chanceOfAll();
        chanceOfFewer();
        lostNothing();
        lostOfFour();
        lostOfEmptyRow();
        lostPlaces();
        lostThatCanNotHaveCome();
        whoBits();
        likeliestOfSeveral();
        likeliestNone();
        likeliestAboveZero();
        booked();
        bookAtMost();
        bookEmptied();
        lookedAt();
        lookedCloses();
        Due.end("RowEdgesTest");
    }

    private static void lengthsTaken() {
        Due.promise(23, "lengths of PIECES (1 .. 17)");
        BrokenThree s = new BrokenThree();
        for (int length : new int[] {0, -2, 18, 99, MIN, MAX}) {
            Due.is("see(" + length + ")", s.see(length), BrokenThree.BAD);
        }
        Due.is("count(3)", s.count(3), 0);
        Due.is("see(1)", s.see(1), 1);
        Due.is("see(17)", s.see(17), 2);
        Due.is("see(0)", s.see(0), BrokenThree.BAD);
        Due.is("see(18)", s.see(18), BrokenThree.BAD);
        Due.is("count(3)", s.count(3), 2);
        // longer than the stick, too
        BrokenThree two = Lay.stick("long 2");
        Due.is("see(17), the stick being 2", two.see(17), 1);
    }

    private static void fourAtMost() {
        Due.promise(23, "4 at most");
        BrokenThree s = new BrokenThree();
        for (int i = 1; i <= 4; i++) {
            Due.is("see(3)", s.see(3), i);
            Due.is("count(3)", s.count(3), i);
        }
        Due.is("see(3), the fifth", s.see(3), BrokenThree.FULL);
        Due.is("see(1), full", s.see(1), BrokenThree.FULL);
        Due.is("see(17), full", s.see(17), BrokenThree.FULL);
        Due.is("see(0), full", s.see(0), BrokenThree.BAD);
        Due.is("see(18), full", s.see(18), BrokenThree.BAD);
        Due.is("see(-2), full", s.see(-2), BrokenThree.BAD);
        Due.is("count(3)", s.count(3), 4);
    }

    private static void emptied() {
        Due.promise(23, "-1: none then, 0");
        BrokenThree s = Lay.stick("long 4;cuts 3", 0);
        Due.is("see(-1), empty", s.see(-1), 0);
        Lay.seen(s, 1, 1, 1, 1);
        Due.is("orders(0)", s.orders(0), 6);
        Due.is("see(-1), full", s.see(-1), 0);
        Due.is("count(3)", s.count(3), 0);
        Due.is("orders(0)", s.orders(0), 0);
        Due.is("see(4)", s.see(4), 1);
        Due.is("orders(0)", s.orders(0), 0);
    }

    private static void nobodyAsked() {
        BrokenThree s = Lay.seen(Lay.stick("long 5", 0, 0), 2, 2, 1);
        for (int breaker : new int[] {-1, 2, 6, MIN, MAX}) {
            Due.promise(24, "NONE");
            Due.is("orders(" + breaker + ")", s.orders(breaker), BrokenThree.NONE);
            Due.promise(25, "NO: breaker, part");
            Due.is("chance(" + breaker + ", 0)", s.chance(breaker, 0), BrokenThree.NO);
            Due.is("chance(" + breaker + ", 1)", s.chance(breaker, 1), BrokenThree.NO);
            Due.promise(26, "NONE");
            Due.is("lost(" + breaker + ")", s.lost(breaker), BrokenThree.NONE);
        }
        Due.promise(25, "NO: breaker, part");
        for (int part : new int[] {-1, 2, MIN, MAX}) {
            Due.is("chance(1, " + part + ")", s.chance(1, part), BrokenThree.NO);
        }
        Due.is("orders(1)", s.orders(1), 2);
    }

    private static void emptyRow() {
        Due.promise(24, "0, if the ROW can not be: an empty one");
        BrokenThree s = Lay.stick("long 5", 0);
        Due.is("orders(0)", s.orders(0), 0);
        Fractions.chanceIs(s, 0, "0/1");
        Due.is("who()", s.who(), 0);
        Due.is("likeliest()", s.likeliest(), -5);
        BrokenThree hard = Lay.stick("long 5;hard 1 x>0", 0);
        Due.is("orders(0)", hard.orders(0), 0);
        Fractions.chanceIs(hard, 0, "0/1");
        Due.is("who()", hard.who(), 0);
    }

    private static void togetherLength() {
        Due.promise(24, "they are LENGTH, together");
        BrokenThree s = Lay.stick("long 9", 0);
        Due.is("3 3 3", Lay.seen(s, 3, 3, 3).orders(0), 2);
        Due.is("3 3 2", Lay.seen(s, 3, 3, 2).orders(0), 0);
        Due.is("3 3 4", Lay.seen(s, 3, 3, 4).orders(0), 0);
        Due.is("1 1 7", Lay.seen(s, 1, 1, 7).orders(0), 2);
        Due.is("1 1 17", Lay.seen(s, 1, 1, 17).orders(0), 0);
        Due.is("17 17 17", Lay.seen(s, 17, 17, 17).orders(0), 0);
        BrokenThree longest = Lay.stick("long 17;cuts 3", 0);
        Due.is("1 1 1 14", Lay.seen(longest, 1, 1, 1, 14).orders(0), 6);
        Due.is("1 1 1 15", Lay.seen(longest, 1, 1, 1, 15).orders(0), 0);
        Due.is("1 1 1 13", Lay.seen(longest, 1, 1, 1, 13).orders(0), 0);
        Due.is("14 1 1 1", Lay.seen(longest, 14, 1, 1, 1).orders(0), 6);
        Fractions.chanceIs(Lay.seen(longest, 17, 17, 17, 17), 0, "0/1");
    }

    private static void noMorePieces() {
        Due.promise(24, "no more PIECES than CUTS are to be made and 1");
        for (int cuts = 1; cuts <= 3; cuts++) {
            BrokenThree s = Lay.stick("long 8;cuts " + cuts, 0);
            Due.is("4 4 of cuts " + cuts, Lay.seen(s, 4, 4).orders(0), cuts == 1 ? 1 : 0);
            Due.is("4 2 2 of cuts " + cuts, Lay.seen(s, 4, 2, 2).orders(0), cuts == 2 ? 2 : 0);
            Due.is("2 2 2 2 of cuts " + cuts, Lay.seen(s, 2, 2, 2, 2).orders(0), cuts == 3 ? 6 : 0);
            Due.is("8 of cuts " + cuts, Lay.seen(s, 8).orders(0), 0);
        }
        // though nothing could be broken any more
        for (int cuts = 1; cuts <= 3; cuts++) {
            Due.is("1 1 1 of cuts " + cuts, Lay.seen(Lay.stick("long 3;cuts " + cuts, 0), 1, 1, 1).orders(0), cuts > 1 ? 2 : 0);
            Due.is("1 1 1 1 of cuts " + cuts, Lay.seen(Lay.stick("long 4;cuts " + cuts, 0), 1, 1, 1, 1).orders(0),
                    cuts > 2 ? 6 : 0);
        }
    }

    private static void fewerPieces() {
        Due.promise(24, "fewer CUTS than are to be made: only if nothing can be broken any more");
        BrokenThree two = Lay.stick("long 2;cuts 3", 0, 1, 2, 3, 4, 5);
        BrokenThree three = Lay.stick("long 3;cuts 3", 0, 1, 2, 3, 4, 5);
        for (int breaker = 0; breaker <= 5; breaker++) {
            Due.is("1 1 by " + breaker, Lay.seen(two, 1, 1).orders(breaker), 1);
            Due.is("2 by " + breaker, Lay.seen(two, 2).orders(breaker), 0);
            Due.is("1 1 1 by " + breaker, Lay.seen(three, 1, 1, 1).orders(breaker), 2);
            Due.is("1 2 by " + breaker, Lay.seen(three, 1, 2).orders(breaker), 0);
        }
        // 2 2 can be broken on, at 3 alone by hard: 1 1 2 can not
        BrokenThree hard = Lay.stick("long 4;cuts 3;hard 1 c>0&x=1;hard 1 c>1&x=3", 0);
        Due.is("2 2", Lay.seen(hard, 2, 2).orders(0), 0);
        Due.is("2 1 1", Lay.seen(hard, 2, 1, 1).orders(0), 2);
        Due.is("1 1 2", Lay.seen(hard, 1, 1, 2).orders(0), 1);
        Due.is("1 2 1", Lay.seen(hard, 1, 2, 1).orders(0), 0);
        Due.is("1 1 1 1: at 1, 3, 2", Lay.seen(hard, 1, 1, 1, 1).orders(0), 1);
        BrokenThree thin = Lay.stick("long 8;cuts 3");
        thin.breaker(5, 4);
        Due.is("4 4: none is longer than 4", Lay.seen(thin, 4, 4).orders(0), 1);
        Due.is("3 5: the 5 is", Lay.seen(thin, 3, 5).orders(0), 0);
        Due.is("3 4 1: at 3, 7; at 7, 3", Lay.seen(thin, 3, 4, 1).orders(0), 2);
        Due.is("1 4 3: at 1, 5; at 5, 1", Lay.seen(thin, 1, 4, 3).orders(0), 2);
    }

    private static void wholeRow() {
        Due.promise(24, "a ROW of one PIECE");
        BrokenThree s = Lay.stick("long 9;hard 1 k=0", 0, 1);
        s.breaker(5, 9);
        s.breaker(5, 8);
        Lay.seen(s, 9);
        Due.is("orders(0), all being hard", s.orders(0), 1);
        Due.is("orders(1)", s.orders(1), 0);
        Due.is("orders(2), none being longer than 9", s.orders(2), 1);
        Due.is("orders(3)", s.orders(3), 0);
        Fractions.chanceIs(s, 0, "1/1");
        Fractions.chanceIs(s, 1, "0/1");
        Due.is("who()", s.who(), 5);
        Due.is("likeliest()", s.likeliest(), 0);
        Due.is("orders(0) of 8", Lay.seen(s, 8).orders(0), 0);
    }

    private static void ordersAsTheyMay() {
        Due.promise(24, "each BREAK as it may");
        BrokenThree s = Lay.stick("long 8;cuts 3", 0, 1, 2, 3, 4, 6);
        Lay.seen(s, 2, 2, 2, 2);
        int[] due = {6, 5, 0, 1, 1, 1};
        for (int breaker = 0; breaker <= 5; breaker++) {
            Due.is("orders(" + breaker + ") of 2 2 2 2", s.orders(breaker), due[breaker]);
        }
        s.row(5, 1, 1);
        // at 4: the second, so at 6, then the first of three, so at 2; at 2: the 6
        Due.is("orders(5) of 2 2 2 2, row 1 being 1", s.orders(5), 1);
        s.row(5, 2, 2);
        Due.is("orders(5) of 2 2 2 2, row 2 being 2", s.orders(5), 1);
        s.row(5, 2, 1);
        Due.is("orders(5) of 2 2 2 2, row 2 being 1", s.orders(5), 1);
        BrokenThree hard = Lay.stick("long 8;cuts 3;hard 1 c=0&x=4;hard 1 c=1&x=2", 0);
        // 2 and 6 and 4 in any order, but 4 not first and 2 not second
        Due.is("orders(0) of 2 2 2 2", Lay.seen(hard, 2, 2, 2, 2).orders(0), 3);
    }

    private static void ordersByHand() {
        Due.promise(24, "the stick as broken by hand is no matter");
        BrokenThree s = Lay.seen(Lay.stick("long 6", 0), 2, 2, 2);
        Due.is("orders(0)", s.orders(0), 2);
        Lay.broken(s, 0, 1, 2, 3, 4, 5);
        Due.is("orders(0)", s.orders(0), 2);
        Fractions.chanceIs(s, 0, "1/10");
        Due.is("who()", s.who(), 1);
        Due.text("pieces", Lay.pieces(s), "1,1,1,1,1,1");
        Due.promise(24, "the yard that holds");
        Due.is("yard()", Lay.yard(s, "long 6;cuts 1"), 1);
        Due.is("orders(0)", s.orders(0), 0);
        Due.is("count(3)", s.count(3), 3);
    }

    private static void ordersMost() {
        Due.promise(24, "in how many orders: one, two, six at most");
        Due.is("of one break", Lay.seen(Lay.stick("long 17;cuts 1", 0), 16, 1).orders(0), 1);
        Due.is("of two", Lay.seen(Lay.stick("long 17;cuts 2", 0), 15, 1, 1).orders(0), 2);
        Due.is("of three", Lay.seen(Lay.stick("long 17;cuts 3", 0), 1, 14, 1, 1).orders(0), 6);
    }

    private static void chanceParts() {
        Due.promise(25, "how likely just these come by it, in lowest terms");
        BrokenThree s = Lay.stick("long 17;cuts 3", 0, 1, 3, 4);
        Fractions.chanceIs(Lay.seen(s, 1, 1, 1, 14), 0, "1/560");
        Fractions.chanceIs(Lay.seen(s, 14, 1, 1, 1), 0, "1/560");
        // at 1, 2, 3 alone, of 16, 15, 14
        Fractions.chanceIs(Lay.seen(s, 1, 1, 1, 14), 1, "1/3360");
        Fractions.chanceIs(Lay.seen(s, 1, 1, 1, 14), 3, "0/1");
        // as many ways three times over
        Fractions.chanceIs(Lay.seen(Lay.stick("long 17;cuts 3;hard 1 c=0&x>13|c=1&x>14|c=2&x>15", 0), 1, 1, 1, 14), 0, "6/2197");
        Fractions.chanceIs(Lay.seen(Lay.stick("long 17;cuts 3;hard 1 c=0&x>11|c=1&x>12|c=2&x>13", 0), 1, 1, 1, 14), 0, "6/1331");
        // halves: 8 9; the 9 at its 4 or 5; then the 8
        Fractions.chanceIs(Lay.seen(s, 4, 4, 4, 5), 3, "1/4");
        Fractions.chanceIs(Lay.seen(s, 4, 4, 5, 4), 3, "1/4");
        Fractions.chanceIs(Lay.seen(s, 4, 5, 4, 4), 3, "1/4");
    }

    private static void chanceOfAll() {
        Due.promise(25, "of one break: of all notches one; of a stick of 2: surely");
        BrokenThree s = Lay.stick("long 17;cuts 1", 0, 4);
        for (int place = 1; place <= 16; place++) {
            Fractions.chanceIs(Lay.seen(s, place, 17 - place), 0, "1/16");
            Fractions.chanceIs(s, 1, place == 8 || place == 9 ? "1/2" : "0/1");
        }
        Fractions.chanceIs(Lay.seen(Lay.stick("long 2;cuts 1", 0), 1, 1), 0, "1/1");
        Fractions.chanceIs(Lay.seen(Lay.stick("long 3;cuts 2", 0), 1, 1, 1), 0, "1/1");
        Fractions.chanceIs(Lay.seen(Lay.stick("long 4;cuts 3", 0), 1, 1, 1, 1), 0, "1/1");
    }

    private static void chanceOfFewer() {
        Due.promise(25, "of fewer CUTS, if nothing can be broken any more");
        BrokenThree s = Lay.stick("long 9;cuts 3;hard 1 c>1", 0, 1);
        Fractions.chanceIs(Lay.seen(s, 3, 3, 3), 0, "1/28");
        Fractions.chanceIs(Lay.seen(s, 3, 3, 3), 1, "1/20");
        Fractions.chanceIs(Lay.seen(s, 3, 2, 2, 2), 0, "0/1");
        Fractions.chanceIs(Lay.seen(s, 4, 5), 0, "0/1");
    }

    private static void lostIs(BrokenThree s, int breaker, int want, int... row) {
        Due.is("lost(" + breaker + ") of " + java.util.Arrays.toString(row), Lay.seen(s, row).lost(breaker), want);
        Due.is("count(3)", s.count(3), row.length);
    }

    private static void lostNothing() {
        Due.promise(26, "0: LENGTH does not lack");
        BrokenThree s = Lay.stick("long 9", 0);
        lostIs(s, 0, 7, 4, 4);
        lostIs(s, 0, 0, 4, 5);
        lostIs(s, 0, 0, 4, 6);
        lostIs(s, 0, 0, 17, 17);
        lostIs(s, 0, 0, 17);
        lostIs(s, 0, 0, 9);
        lostIs(s, 0, 0, 8);
        lostIs(s, 0, 7, 1, 1);
        BrokenThree once = Lay.stick("long 9;cuts 3;hard 1 c>0", 0);
        lostIs(once, 0, 0, 4, 5);
        lostIs(once, 0, 3, 4);
        lostIs(once, 0, 3, 8);
        lostIs(once, 0, 0, 9);
        Due.is("orders(0), though nothing lacks", Lay.seen(once, 4, 5).orders(0), 1);
    }

    private static void lostOfFour() {
        Due.promise(26, "0: there are 4");
        BrokenThree s = Lay.stick("long 9;cuts 3", 0);
        lostIs(s, 0, 15, 1, 1, 1);
        lostIs(s, 0, 15, 2, 2, 4);
        lostIs(s, 0, 0, 3, 3, 3);
        lostIs(s, 0, 0, 1, 1, 1, 1);
        lostIs(s, 0, 0, 1, 1, 1, 6);
        lostIs(s, 0, 0, 17, 17, 17, 17);
        BrokenThree two = Lay.stick("long 9;cuts 2", 0);
        lostIs(two, 0, 0, 1, 1, 1);
        lostIs(two, 0, 7, 1, 1);
        BrokenThree one = Lay.stick("long 9;cuts 1", 0);
        lostIs(one, 0, 0, 1, 1);
        lostIs(one, 0, 3, 1);
    }

    private static void lostOfEmptyRow() {
        Due.promise(26, "an empty ROW: the whole stick, put ahead of all");
        lostIs(Lay.stick("long 9", 0), 0, 0);
        lostIs(Lay.stick("long 9;hard 1 x>0", 0), 0, 1);
        lostIs(Lay.stick("long 17;hard 1 x>0", 0), 0, 1);
        lostIs(Lay.stick("long 2;cuts 1", 0), 0, 0);
        BrokenThree thin = Lay.stick("long 9");
        thin.breaker(5, 9);
        thin.breaker(5, 8);
        lostIs(thin, 0, 1);
        lostIs(thin, 1, 0);
    }

    private static void lostPlaces() {
        Due.promise(26, "places (bits; 0 ahead of all of the ROW) where one could be put");
        BrokenThree s = Lay.stick("long 9", 4, 0);
        // halves: 4 5, then 4 2 3, 4 3 2; 5 4, then 2 3 4, 3 2 4
        lostIs(s, 0, 1 + 2, 3, 4);
        lostIs(s, 0, 2 + 4, 4, 3);
        lostIs(s, 0, 1 + 2, 2, 4);
        lostIs(s, 0, 1 + 4, 2, 3);
        lostIs(s, 0, 0, 4, 4);
        lostIs(s, 0, 0, 3, 3);
        lostIs(s, 1, 7, 3, 3);
        BrokenThree left = Lay.stick("long 9;cuts 3;hard 1 x=1|x=3|x=5|x=7", 3, 0);
        // a 1 can stand at the right end alone
        lostIs(left, 1, 8, 2, 2, 4);
        lostIs(left, 0, 8, 2, 2, 4);
        lostIs(left, 1, 8, 2, 4, 2);
    }

    private static void lostThatCanNotHaveCome() {
        Due.promise(26, "so that it can have come");
        BrokenThree s = Lay.stick("long 6;cuts 2;hard 1 x=3", 0, 1);
        lostIs(s, 0, 2, 1, 2);
        lostIs(s, 0, 1, 3, 2);
        lostIs(s, 0, 4, 2, 3);
        lostIs(s, 0, 7, 2, 2);
        lostIs(s, 0, 7, 4, 1);
        lostIs(s, 0, 0, 3);
    }

    private static void whoBits() {
        Due.promise(27, "those BREAKERS, as bits");
        BrokenThree nobody = Lay.seen(Lay.stick("long 2"), 1, 1);
        Due.is("who() of nobody", nobody.who(), 0);
        BrokenThree s = Lay.seen(Lay.stick("long 2;cuts 1", 0, 1, 2, 3, 4, 5), 1, 1);
        Due.is("who() of six", s.who(), 63);
        Due.is("who() of an empty row", Lay.seen(s).who(), 0);
        Due.is("who() of 2", Lay.seen(s, 2).who(), 0);
        for (int kind = 0; kind <= 5; kind++) {
            BrokenThree one = Lay.stick("long 3;cuts 1;hard 1 k=" + kind + "&x=1", 0, 1, 2, 3, 4, 5);
            Due.is("who() of 1 2, not " + kind, Lay.seen(one, 1, 2).who(), 63 - (1 << kind));
            BrokenThree other = Lay.stick("long 3;cuts 1;hard 1 !k=" + kind + "&x=1", 0, 1, 2, 3, 4, 5);
            Due.is("who() of 1 2, " + kind + " alone", Lay.seen(other, 1, 2).who(), 1 << kind);
        }
    }

    private static void likeliestOfSeveral() {
        Due.promise(28, "of several the first");
        BrokenThree s = Lay.seen(Lay.stick("long 9;cuts 1", 2, 0, 1, 3, 0, 5), 4, 5);
        Due.is("likeliest()", s.likeliest(), 0);
        BrokenThree later = Lay.seen(Lay.stick("long 9;cuts 1;hard 1 k=0&x=1", 2, 0, 1, 0), 4, 5);
        Due.is("likeliest(), of fewer notches", later.likeliest(), 1);
        BrokenThree halving = Lay.seen(Lay.stick("long 9;cuts 1", 0, 1, 4, 4), 4, 5);
        Due.is("likeliest(), of the middle", halving.likeliest(), 2);
        Due.is("likeliest(), of the end", Lay.seen(halving, 1, 8).likeliest(), 0);
        BrokenThree all = Lay.seen(Lay.stick("long 2;cuts 1", 5, 4, 3, 2, 1, 0), 1, 1);
        Due.is("likeliest(), all alike", all.likeliest(), 0);
        // one way and then two, two ways and then one
        String yard = "long 5;hard 1 k=0&c=0&x<3;hard 1 k=0&c=1&!x=1;hard 1 k=1&c=0&!x=3";
        BrokenThree halves = Lay.seen(Lay.stick(yard, 0, 1), 1, 2, 2);
        Fractions.chanceIs(halves, 0, "1/2");
        Fractions.chanceIs(halves, 1, "1/2");
        Due.is("likeliest(), two halves", halves.likeliest(), 0);
        Due.is("likeliest(), two halves", Lay.seen(Lay.stick(yard, 1, 0), 1, 2, 2).likeliest(), 0);
        // 15 and 16 ways, just beside one another
        BrokenThree beside = Lay.seen(Lay.stick("long 17;cuts 1;hard 1 k=3&x=16", 0, 1, 2, 3), 8, 9);
        Due.is("likeliest(), of 15 notches", beside.likeliest(), 3);
    }

    private static void likeliestNone() {
        Due.promise(28, "-5: none");
        Due.is("likeliest() of nobody", Lay.seen(Lay.stick("long 9;cuts 1"), 4, 5).likeliest(), -5);
        Due.is("likeliest() of nobody, an empty row", new BrokenThree().likeliest(), -5);
        BrokenThree s = Lay.stick("long 9;cuts 1;hard 1 x=4", 0, 1, 2, 3, 4, 5);
        Due.is("likeliest() of 4 5", Lay.seen(s, 4, 5).likeliest(), -5);
        Due.is("likeliest() of 4 4", Lay.seen(s, 4, 4).likeliest(), -5);
        Due.is("likeliest() of 3 6", Lay.seen(s, 3, 6).likeliest(), 0);
    }

    private static void likeliestAboveZero() {
        Due.promise(28, "if it is above 0");
        BrokenThree s = Lay.stick("long 17;cuts 3;hard 1 k<5", 0, 1, 2, 3, 4, 5);
        Due.is("likeliest(), the last alone", Lay.seen(s, 1, 1, 1, 14).likeliest(), 5);
        // as little as can be: one of 16, of 15, of 14
        BrokenThree least = Lay.stick("long 17;cuts 3;hard 1 c=0&x<2", 4, 0);
        Due.is("likeliest()", Lay.seen(least, 1, 1, 1, 14).likeliest(), 1);
    }

    private static void booked() {
        Due.promise(29, "three lengths (1 .. 99)");
        BrokenThree s = new BrokenThree();
        for (int wrong : new int[] {0, -2, 100, MIN, MAX}) {
            Due.is("book(" + wrong + ", 1, 1, true)", s.book(wrong, 1, 1, true), BrokenThree.BAD);
        }
        for (int wrong : new int[] {0, -1, -2, 100, MIN, MAX}) {
            Due.is("book(1, " + wrong + ", 1, true)", s.book(1, wrong, 1, true), BrokenThree.BAD);
            Due.is("book(1, 1, " + wrong + ", false)", s.book(1, 1, wrong, false), BrokenThree.BAD);
        }
        Due.is("count(4)", s.count(4), 0);
        Due.is("looked()", s.looked(), -5);
        Due.is("book(1, 1, 1, true)", s.book(1, 1, 1, true), 1);
        Due.is("book(99, 1, 1, false)", s.book(99, 1, 1, false), 2);
        Due.is("book(1, 99, 1, false)", s.book(1, 99, 1, false), 3);
        Due.is("book(1, 1, 99, false)", s.book(1, 1, 99, false), 4);
        Due.is("book(99, 99, 99, true)", s.book(99, 99, 99, true), 5);
        Due.is("count(4)", s.count(4), 5);
        Due.is("looked()", s.looked(), -5);
    }

    private static void bookAtMost() {
        Due.promise(29, "8 at most");
        BrokenThree s = new BrokenThree();
        for (int i = 1; i <= 8; i++) {
            Due.is("book(3, 4, 5, ..)", s.book(3, 4, 5, i != 8), i);
            Due.is("count(4)", s.count(4), i);
        }
        Due.is("book(3, 4, 5, false), the ninth", s.book(3, 4, 5, false), BrokenThree.FULL);
        Due.is("book(0, 4, 5, false), full", s.book(0, 4, 5, false), BrokenThree.BAD);
        Due.is("book(3, 100, 5, false), full", s.book(3, 100, 5, false), BrokenThree.BAD);
        Due.is("book(3, 4, -1, false), full", s.book(3, 4, -1, false), BrokenThree.BAD);
        Due.is("count(4)", s.count(4), 8);
        Due.promise(30, "the first that is not so: the eighth");
        Due.is("looked()", s.looked(), 7);
    }

    private static void bookEmptied() {
        Due.promise(29, "one -1: none then, 0, whatever the others are");
        int[][] others = {{0, 0}, {1, 1}, {-1, -1}, {100, MIN}, {MAX, 99}};
        for (int[] other : others) {
            BrokenThree s = new BrokenThree();
            Due.is("book(-1, ..), empty", s.book(-1, other[0], other[1], true), 0);
            for (int i = 0; i < 8; i++) {
                s.book(1, 1, 1, false);
            }
            Due.is("book(-1, ..), full", s.book(-1, other[0], other[1], false), 0);
            Due.is("count(4)", s.count(4), 0);
            Due.is("looked()", s.looked(), -5);
            Due.is("book(1, 1, 1, true)", s.book(1, 1, 1, true), 1);
            Due.is("looked()", s.looked(), -5);
        }
    }

    private static void lookedAt() {
        Due.promise(30, "the first that is not so (-5: none)");
        BrokenThree s = new BrokenThree();
        Due.is("looked(), no rows", s.looked(), -5);
        for (int wrong = 7; wrong >= 0; wrong--) {
            s.book(-1, 0, 0, true);
            for (int i = 0; i < 8; i++) {
                s.book(2, 2, 3, i < wrong);
            }
            Due.is("looked()", s.looked(), wrong);
        }
        s.book(-1, 0, 0, true);
        for (int i = 0; i < 8; i++) {
            s.book(i + 1, i + 1, i + 1, true);
        }
        Due.is("looked(), all so", s.looked(), -5);
    }

    private static void lookedCloses() {
        Due.promise(30, "whether they CLOSE");
        int[][] closing = {{1, 1, 1}, {2, 2, 3}, {2, 3, 2}, {3, 2, 2}, {50, 50, 99}, {99, 50, 50}, {50, 99, 50}, {99, 99, 1}};
        int[][] not = {{1, 1, 2}, {1, 2, 1}, {2, 1, 1}, {1, 2, 3}, {3, 1, 2}, {2, 3, 1}, {49, 50, 99}, {99, 49, 50}, {1, 1, 99}};
        for (int[] c : closing) {
            lookedOnce(c, true);
        }
        for (int[] n : not) {
            lookedOnce(n, false);
        }
    }

    private static void lookedOnce(int[] row, boolean close) {
        BrokenThree s = new BrokenThree();
        s.book(row[0], row[1], row[2], close);
        Due.is("looked() at " + java.util.Arrays.toString(row) + ", as it is", s.looked(), -5);
        s.book(row[0], row[1], row[2], !close);
        Due.is("looked() at " + java.util.Arrays.toString(row) + ", as it is not", s.looked(), 1);
    }
}
