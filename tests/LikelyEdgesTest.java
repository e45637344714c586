/** Promises 12 to 16, sentence by sentence: what is likely, at the edges that the document names. */
public final class LikelyEdgesTest {
    private static final int MIN = Integer.MIN_VALUE;
    private static final int MAX = Integer.MAX_VALUE;
    private static final long NO = BrokenThree.NO;

    public static void main(String[] args) {
        numbersTaken();
        noMatterN();
        atTheNumber();
        onePieceLeft();
        fewerPieces();
        askedAgain();
        fourPieces();
        cutsToMake();
        wholeStickAlone();
        rowsCount();
        lowestTerms();
        meanTaken();
        meanOfFewer();
        meansTogether();
        costsOfNone();
        costsAheadOfIt();
        costsOfFewer();
        costsMost();
        untilTaken();
        untilAtM();
        untilOfAnyStick();
        hiddenTaken();
        hiddenEdges();
        hiddenAll();
        Due.end("LikelyEdgesTest");
    }

    private static void numbersTaken() {
        Due.promise(12, "NO: breaker, what, n (0 .. 99), part");
        BrokenThree s = Lay.stick("long 5", 0, 1);
        for (int what = 0; what <= 6; what++) {
            for (int n : new int[] {0, 1, 17, 98, 99}) {
                Due.holds("likely(1, " + what + ", " + n + ", 0) is taken", s.likely(1, what, n, 0) >= 0);
                Due.holds("likely(1, " + what + ", " + n + ", 1) is taken", s.likely(1, what, n, 1) >= 1);
            }
            for (int n : new int[] {-1, 100, MIN, MAX}) {
                Due.is("likely(1, " + what + ", " + n + ", 0)", s.likely(1, what, n, 0), NO);
            }
            for (int part : new int[] {-1, 2, MIN, MAX}) {
                Due.is("likely(1, " + what + ", 0, " + part + ")", s.likely(1, what, 0, part), NO);
            }
        }
        s = Lay.stick("long 5", 0, 1);
        for (int what : new int[] {-1, 7, MIN, MAX}) {
            Due.is("likely(1, " + what + ", 0, 0)", s.likely(1, what, 0, 0), NO);
            Due.is("likely(1, " + what + ", 0, 1)", s.likely(1, what, 0, 1), NO);
        }
        for (int breaker : new int[] {-1, 2, 6, MIN, MAX}) {
            Due.is("likely(" + breaker + ", 0, 0, 0)", s.likely(breaker, 0, 0, 0), NO);
            Due.is("likely(" + breaker + ", 0, 0, 1)", s.likely(breaker, 0, 0, 1), NO);
        }
    }

    private static void noMatterN() {
        Due.promise(12, "what 0, 1, 2, 5: n is no matter");
        BrokenThree s = Lay.stick("long 12", 0);
        for (int n : new int[] {0, 1, 3, 99}) {
            Fractions.likelyIs(s, 0, 0, n, "2/11");
            Fractions.likelyIs(s, 0, 1, n, "6/55");
            Fractions.likelyIs(s, 0, 2, n, "0/1");
            Fractions.likelyIs(s, 0, 5, n, "42/55");
        }
        Fractions.likelyIs(Lay.stick("long 9", 0), 0, 2, 99, "3/14");
    }

    private static void atTheNumber() {
        // a stick of 6, two cuts: 1 1 4 (3 of 10), 1 2 3 (6), 2 2 2 (1)
        BrokenThree s = Lay.stick("long 6", 0);
        String[] longest = {"1/1", "1/1", "1/1", "9/10", "3/10", "0/1", "0/1"};
        String[] shortest = {"1/1", "1/1", "1/10", "0/1", "0/1", "0/1", "0/1"};
        Due.promise(12, "what 3: the longest, 4: the shortest is n or more, 6: one of them or more is n");
        String[] one = {"0/1", "9/10", "7/10", "3/5", "3/10", "0/1", "0/1"};
        for (int n = 0; n <= 6; n++) {
            Fractions.likelyIs(s, 0, 3, n, longest[n]);
            Fractions.likelyIs(s, 0, 4, n, shortest[n]);
            Fractions.likelyIs(s, 0, 6, n, one[n]);
        }
        for (int what : new int[] {3, 4, 6}) {
            Fractions.likelyIs(s, 0, what, 99, "0/1");
        }
        Due.promise(12, "what 0: they CLOSE, which 1 2 3 do not");
        Fractions.likelyIs(s, 0, 0, 0, "1/10");
        Due.promise(12, "what 5: no two are alike");
        Fractions.likelyIs(s, 0, 5, 0, "3/5");
        Due.promise(12, "what 2: they are BLUNT, which 2 2 3 is not; what 1: SQUARE");
        // 2 2 3 (3 of 15): 4 and 4 are less than 9; 1 3 3: 1 and 9 are more
        s = Lay.stick("long 7", 0);
        Fractions.likelyIs(s, 0, 2, 0, "1/5");
        Fractions.likelyIs(s, 0, 1, 0, "0/1");
        Fractions.likelyIs(s, 0, 0, 0, "2/5");
    }

    private static void onePieceLeft() {
        Due.promise(12, "fewer, if nothing can be broken any more: none at all");
        BrokenThree s = Lay.stick("long 9;cuts 3;hard 1 x>0;price 5 x>0", 0, 1, 2, 3, 4, 5);
        for (int breaker = 0; breaker <= 5; breaker++) {
            Fractions.likelyIs(s, breaker, 0, 0, "0/1");
            Fractions.likelyIs(s, breaker, 1, 0, "0/1");
            Fractions.likelyIs(s, breaker, 2, 0, "0/1");
            Fractions.likelyIs(s, breaker, 3, 9, "1/1");
            Fractions.likelyIs(s, breaker, 3, 10, "0/1");
            Fractions.likelyIs(s, breaker, 4, 9, "1/1");
            Fractions.likelyIs(s, breaker, 4, 10, "0/1");
            Fractions.likelyIs(s, breaker, 5, 0, "1/1");
            Fractions.likelyIs(s, breaker, 6, 9, "1/1");
            Fractions.likelyIs(s, breaker, 6, 8, "0/1");
            Fractions.meanIs(s, breaker, 0, "9/1");
            Fractions.meanIs(s, breaker, 1, "0/1");
            Fractions.costsAre(s, breaker, "0/1");
        }
        BrokenThree thin = Lay.stick("long 9;cuts 3");
        thin.breaker(5, 9);
        Fractions.likelyIs(thin, 0, 4, 9, "1/1");
        thin.breaker(5, 8);
        Fractions.likelyIs(thin, 1, 4, 9, "0/1");
    }

    private static void fewerPieces() {
        Due.promise(12, "fewer, if nothing can be broken any more: two are never CLOSE");
        BrokenThree s = Lay.stick("long 2;cuts 3", 0, 1, 2, 3, 4, 5);
        for (int breaker = 0; breaker <= 5; breaker++) {
            Fractions.likelyIs(s, breaker, 0, 0, "0/1");
            Fractions.likelyIs(s, breaker, 3, 1, "1/1");
            Fractions.likelyIs(s, breaker, 3, 2, "0/1");
            Fractions.likelyIs(s, breaker, 5, 0, "0/1");
            Fractions.meanIs(s, breaker, 1, "1/1");
            Fractions.meanIs(s, breaker, 2, "0/1");
        }
        s = Lay.stick("long 3;cuts 3", 0, 1, 2, 3, 4, 5);
        for (int breaker = 0; breaker <= 5; breaker++) {
            Fractions.likelyIs(s, breaker, 0, 0, "1/1");
            Fractions.meanIs(s, breaker, 2, "1/1");
            Fractions.meanIs(s, breaker, 3, "0/1");
        }
        Fractions.likelyIs(Lay.stick("long 7;cuts 3;hard 1 c>0", 0), 0, 0, 0, "0/1");
        Fractions.likelyIs(Lay.stick("long 7;cuts 3;hard 1 c>0", 0), 0, 5, 0, "1/1");
        Fractions.likelyIs(Lay.stick("long 7;cuts 3;hard 1 c>1", 0), 0, 0, 0, "2/5");
    }

    private static void askedAgain() {
        Due.promise(12, "what was asked before is no matter");
        BrokenThree s = Lay.stick("long 5");
        s.breaker(5, 3);
        for (int i = 0; i < 2; i++) {
            // 1|4 and 4|1 are broken on, and two are alike then; 2|3 and 3|2 are not
            Fractions.likelyIs(s, 0, 5, 0, "1/2");
            Fractions.likelyIs(s, 0, 0, 0, "1/6");
            Fractions.likelyIs(s, 0, 6, 3, "5/6");
            Fractions.likelyIs(s, 0, 4, 2, "1/2");
            Fractions.meanIs(s, 0, 2, "4/3");
        }
    }

    private static void fourPieces() {
        Due.promise(12, "there are 3 (SQUARE, BLUNT), 3 or more (CLOSE)");
        BrokenThree s = Lay.stick("long 16;cuts 3", 0);
        Fractions.likelyIs(s, 0, 1, 0, "0/1");
        Fractions.likelyIs(s, 0, 2, 0, "0/1");
        // of 455 those with a longest of 8 or more, 4 by 56, do not close
        Fractions.likelyIs(s, 0, 0, 0, "33/65");
        BrokenThree one = Lay.stick("long 12;cuts 1", 0);
        Fractions.likelyIs(one, 0, 0, 0, "0/1");
        Fractions.likelyIs(one, 0, 5, 0, "10/11");
    }

    private static void cutsToMake() {
        Due.promise(12, "as often as CUTS are to be made");
        // of four: 165 ways in all, 35 with 2 or more each, 1 with 3 each
        String[] shortest = {"36/11", "94/55", "67/55"};
        for (int cuts = 1; cuts <= 3; cuts++) {
            BrokenThree s = Lay.stick("cuts " + cuts, 0);
            Fractions.meanIs(s, 0, 0, shortest[cuts - 1]);
            for (int k = 0; k <= 3; k++) {
                Due.is("mean(0, " + k + ", 0) of cuts " + cuts + " is above 0", s.mean(0, k, 0) > 0 ? 1 : 0, k <= cuts ? 1 : 0);
            }
        }
    }

    private static void wholeStickAlone() {
        Due.promise(12, "the whole STICK (one PIECE of LENGTH) is broken, whatever it is by hand");
        BrokenThree s = Lay.stick("long 9;price 3 c=0;cuts 2", 0, 4);
        String before = s.likely(1, 2, 0, 0) + "/" + s.likely(1, 2, 0, 1);
        Lay.broken(s, 0, 1, 2, 3, 4, 5, 6, 7, 8);
        Fractions.likelyIs(s, 0, 2, 0, "3/14");
        Fractions.likelyIs(s, 1, 2, 0, before);
        Fractions.meanIs(s, 0, 0, "39/28");
        Fractions.costsAre(s, 0, "3/1");
        Due.text("pieces", Lay.pieces(s), "1,1,1,1,1,1,1,1,1");
        Due.is("told(3)", s.told(3), 3);
    }

    private static void rowsCount() {
        Due.promise(12, "by a TOLD one, as its row is now");
        // 1|4 or 2|3: of the 4 two of three ways leave a 3; the 2 leaves the 3, and the 3 none
        BrokenThree s = Lay.stick("long 5;hard 1 c=0&x>2", 6);
        Fractions.likelyIs(s, 0, 6, 3, "5/6");
        s.row(0, 0, 9);
        Fractions.likelyIs(s, 0, 6, 3, "5/6");
        s.row(0, 1, 1);
        Fractions.likelyIs(s, 0, 6, 3, "1/3");
        s.row(0, 1, 2);
        Fractions.likelyIs(s, 0, 6, 3, "5/6");
        BrokenThree six = Lay.stick("long 7;hard 1 c=0&x<4|c=0&x>4", 6);
        // 4 3: the 4 is broken at 1, 2, 3; or the 3 at 5, 6
        Fractions.meanIs(six, 0, 0, "4/3");
        six.row(0, 1, 9);
        Fractions.meanIs(six, 0, 0, "1/1");
        six.row(0, 1, 8);
        Fractions.meanIs(six, 0, 0, "4/3");
        six.row(0, 2, 9);
        Fractions.meanIs(six, 0, 0, "4/3");
    }

    private static void lowestTerms() {
        Due.promise(12, "a fraction in lowest terms");
        BrokenThree s = Lay.stick("long 17;cuts 3", 0, 1, 2, 3, 4, 5);
        for (int breaker = 0; breaker <= 5; breaker++) {
            for (int n = 1; n <= 8; n++) {
                lowest(s.likely(breaker, 6, n, 0), s.likely(breaker, 6, n, 1));
            }
            for (int k = 0; k <= 3; k++) {
                lowest(s.mean(breaker, k, 0), s.mean(breaker, k, 1));
            }
        }
        // as many ways three times over: 1 1 1 14 comes in six orders
        Fractions.likelyIs(Lay.stick("long 17;cuts 3;hard 1 c=0&x>13|c=1&x>14|c=2&x>15", 0), 0, 3, 14, "6/2197");
        Fractions.likelyIs(Lay.stick("long 17;cuts 3;hard 1 c=0&x>11|c=1&x>12|c=2&x>13", 0), 0, 3, 14, "6/1331");
        // nothing of it is 0 of 1, all of it 1 of 1
        Fractions.likelyIs(s, 0, 3, 15, "0/1");
        Fractions.likelyIs(s, 0, 3, 5, "1/1");
    }

    private static void lowest(long above, long below) {
        long a = above;
        long b = below;
        while (b != 0) {
            long rest = a % b;
            a = b;
            b = rest;
        }
        Due.is("divisor of " + above + " and " + below, a, 1);
    }

    private static void meanTaken() {
        Due.promise(13, "NO: breaker, k (0 .. 3), part");
        BrokenThree s = Lay.stick("long 5;cuts 3", 0, 1);
        for (int k = 0; k <= 3; k++) {
            Due.holds("mean(1, " + k + ", 0) is taken", s.mean(1, k, 0) > 0);
            Due.holds("mean(1, " + k + ", 1) is taken", s.mean(1, k, 1) > 0);
        }
        for (int wrong : new int[] {-1, 2, 6, MIN, MAX}) {
            Due.is("mean(" + wrong + ", 0, 0)", s.mean(wrong, 0, 0), NO);
            Due.is("mean(" + wrong + ", 0, 1)", s.mean(wrong, 0, 1), NO);
            Due.is("mean(1, 0, " + wrong + ")", s.mean(1, 0, wrong), NO);
        }
        for (int k : new int[] {-1, 4, MIN, MAX}) {
            Due.is("mean(1, " + k + ", 0)", s.mean(1, k, 0), NO);
            Due.is("mean(1, " + k + ", 1)", s.mean(1, k, 1), NO);
        }
    }

    private static void meanOfFewer() {
        Due.promise(13, "0, if there are fewer");
        Fractions.meanIs(Lay.stick("long 9;cuts 1", 0), 0, 1, "13/2");
        Fractions.meanIs(Lay.stick("long 9;cuts 1", 0), 0, 2, "0/1");
        Fractions.meanIs(Lay.stick("long 9;cuts 1", 0), 0, 3, "0/1");
        Fractions.meanIs(Lay.stick("long 9;cuts 2", 0), 0, 3, "0/1");
        // 1|4 and 4|1 are broken on, 2|3 and 3|2 are not
        BrokenThree s = Lay.stick("long 5");
        s.breaker(5, 3);
        Fractions.meanIs(s, 0, 0, "3/2");
        Fractions.meanIs(s, 0, 1, "13/6");
        Fractions.meanIs(s, 0, 2, "4/3");
        Fractions.meanIs(s, 0, 3, "0/1");
    }

    private static void meansTogether() {
        Due.promise(13, "all pieces together are as long as the stick");
        for (int length = 2; length <= 17; length++) {
            BrokenThree s = Lay.stick("long " + length + ";cuts 3;hard 1 x=2&c=1", 0, 1, 2, 3, 4);
            s.breaker(5, 2);
            for (int breaker = 0; breaker <= 5; breaker++) {
                Model.Part sum = Model.Part.of(0, 1);
                for (int k = 0; k <= 3; k++) {
                    sum = sum.plus(Model.Part.of(s.mean(breaker, k, 0), s.mean(breaker, k, 1)));
                }
                Due.is("means of breaker " + breaker + " together", sum.part(0), length);
                Due.is("means of breaker " + breaker + " together, below", sum.part(1), 1);
            }
        }
    }

    private static void costsOfNone() {
        Due.promise(14, "NO: breaker, part");
        BrokenThree s = Lay.stick("long 5;price 1 x=1", 0, 1);
        for (int wrong : new int[] {-1, 2, 6, MIN, MAX}) {
            Due.is("costs(" + wrong + ", 0)", s.costs(wrong, 0), NO);
            Due.is("costs(" + wrong + ", 1)", s.costs(wrong, 1), NO);
            Due.is("costs(1, " + wrong + ")", s.costs(1, wrong), NO);
        }
        Due.promise(14, "no price, and a price of 0");
        Fractions.costsAre(Lay.stick("long 5", 0), 0, "0/1");
        Fractions.costsAre(Lay.stick("long 5;price 0 x>0", 0), 0, "0/1");
        Fractions.costsAre(Lay.stick("long 5;price 9 x>4", 0), 0, "0/1");
        Fractions.costsAre(Lay.stick("long 5;hard 9 x>4", 0), 0, "0/1");
        Fractions.costsAre(Lay.stick("long 5;hard 9 x>1;cuts 1", 0), 0, "0/1");
        BrokenThree noYard = new BrokenThree();
        noYard.breaker(0, 0);
        Fractions.costsAre(noYard, 0, "0/1");
    }

    private static void costsAheadOfIt() {
        Due.promise(14, "the n of all price whose E holds, ahead of it; all BREAKS together");
        Fractions.costsAre(Lay.stick("long 5;cuts 1;price 1 c=0", 0), 0, "1/1");
        Fractions.costsAre(Lay.stick("long 5;cuts 1;price 1 c=1", 0), 0, "0/1");
        Fractions.costsAre(Lay.stick("long 5;cuts 2;price 1 c=1", 0), 0, "1/1");
        Fractions.costsAre(Lay.stick("long 5;cuts 2;price 1 c=2", 0), 0, "0/1");
        Fractions.costsAre(Lay.stick("long 5;cuts 3;price 1 c=2;price 2 c=2", 0), 0, "3/1");
        Fractions.costsAre(Lay.stick("long 5;cuts 3;price 1 c=3", 0), 0, "0/1");
        Fractions.costsAre(Lay.stick("long 5;cuts 2;price 1 l=5", 0), 0, "1/1");
        // first at 1 or 4, and then the 4 at any of three; of 2|3 none is as long
        Fractions.costsAre(Lay.stick("long 5;cuts 2;price 1 l=4", 0), 0, "1/2");
        Fractions.costsAre(Lay.stick("long 5;cuts 2;price 1 r=2", 0), 0, "2/3");
        Fractions.costsAre(Lay.stick("long 5;cuts 1;price 1 k=0;price 2 k=4", 0, 4), 0, "1/1");
        Fractions.costsAre(Lay.stick("long 5;cuts 1;price 1 k=0;price 2 k=4", 0, 4), 1, "2/1");
        Fractions.costsAre(Lay.stick("long 5;cuts 1;price 1 x=1;price 1 x=1", 0), 0, "1/2");
    }

    private static void costsOfFewer() {
        Due.promise(14, "fewer, if nothing can be broken any more");
        Fractions.costsAre(Lay.stick("long 2;cuts 3;price 7 x>0", 0), 0, "7/1");
        Fractions.costsAre(Lay.stick("long 3;cuts 3;price 7 x>0", 0), 0, "14/1");
        Fractions.costsAre(Lay.stick("long 9;cuts 3;price 7 x>0;hard 1 c>1", 0), 0, "14/1");
        Fractions.costsAre(Lay.stick("long 9;cuts 3;price 7 x>0;hard 1 c<1", 0), 0, "0/1");
        BrokenThree s = Lay.stick("long 5;price 1 x>0");
        s.breaker(5, 3);
        Fractions.costsAre(s, 0, "3/2");
    }

    private static void costsMost() {
        Due.promise(14, "as much as can be");
        BrokenThree s = Lay.stick("cuts 3;long 17;price 99 x>0;price 99 x>0;price 99 x>0;price 99 x>0;price 99 x>0;price 99 x>0", 0);
        Fractions.costsAre(s, 0, "1782/1");
        BrokenThree dear = Lay.stick("cuts 3;long 17;price 99 x>1;price 99 x>0;price 99 x>0;price 99 x>0;price 99 x>0;price 99 x>0", 0);
        // each of 16 notches is broken in 3 of 16 ways
        Fractions.costsAre(dear, 0, "28215/16");
    }

    private static void untilTaken() {
        Due.promise(15, "NO: m (1 .. 16), part");
        BrokenThree s = Lay.stick("long 17");
        for (int m : new int[] {0, -1, 17, MIN, MAX}) {
            Due.is("until(" + m + ", 0)", s.until(m, 0), NO);
            Due.is("until(" + m + ", 1)", s.until(m, 1), NO);
        }
        for (int part : new int[] {-1, 2, MIN, MAX}) {
            Due.is("until(1, " + part + ")", s.until(1, part), NO);
            Due.is("until(16, " + part + ")", s.until(16, part), NO);
        }
        Fractions.untilIs(s, 1, "17/1");
        Fractions.untilIs(s, 16, "2/1");
        Fractions.untilIs(new BrokenThree(), 1, "12/1");
    }

    private static void untilAtM() {
        Due.promise(15, "each PIECE longer than m");
        for (int length = 2; length <= 16; length++) {
            BrokenThree s = Lay.stick("long " + length);
            Fractions.untilIs(s, length, "1/1");
            Fractions.untilIs(s, 16, "1/1");
            if (length > 2) {
                Fractions.untilIs(s, length - 1, "2/1");
            }
            Fractions.untilIs(s, 1, length + "/1");
        }
        // 5, m 2: 1|4 and 4|1: 1 and 8/3; 2|3 and 3|2: 1 and 2
        Fractions.untilIs(Lay.stick("long 5"), 2, "10/3");
        // 5, m 3: 1|4: 1 and 2; 2|3: two
        Fractions.untilIs(Lay.stick("long 5"), 3, "5/2");
    }

    private static void untilOfAnyStick() {
        Due.promise(15, "at any of its inner NOTCHES, no NOTCH being HARD; THE STICK at first");
        BrokenThree s = Lay.stick("long 5;cuts 1;hard 1 x>0", 0);
        Fractions.untilIs(s, 2, "10/3");
        s = Lay.broken(Lay.stick("long 5;cuts 1", 0), 0, 1, 2, 3, 4);
        Fractions.untilIs(s, 2, "10/3");
        Fractions.untilIs(s, 4, "2/1");
        Due.is("told(2), after", s.told(2), 5);
    }

    private static void hiddenTaken() {
        Due.promise(16, "NO: n (3 .. 10), a (1 .. n), k (1 .. 6), part");
        BrokenThree s = new BrokenThree();
        for (int n : new int[] {2, 11, 0, -1, MIN, MAX}) {
            Due.is("hidden(" + n + ", 1, 1, 0)", s.hidden(n, 1, 1, 0), NO);
            Due.is("hidden(" + n + ", 2, 6, 1)", s.hidden(n, 2, 6, 1), NO);
        }
        for (int n = 3; n <= 10; n++) {
            for (int a : new int[] {0, n + 1, -1, MIN, MAX}) {
                Due.is("hidden(" + n + ", " + a + ", 1, 0)", s.hidden(n, a, 1, 0), NO);
            }
            Due.is("hidden(" + n + ", " + n + ", 1, 0)", s.hidden(n, n, 1, 0), 1);
            Due.is("hidden(" + n + ", 1, 1, 0)", s.hidden(n, 1, 1, 0), 0);
        }
        for (int k : new int[] {0, 7, -1, MIN, MAX}) {
            Due.is("hidden(5, 5, " + k + ", 0)", s.hidden(5, 5, k, 0), NO);
        }
        for (int part : new int[] {-1, 2, MIN, MAX}) {
            Due.is("hidden(5, 5, 1, " + part + ")", s.hidden(5, 5, 1, part), NO);
        }
    }

    private static void hiddenEdges() {
        Due.promise(16, "each from any place on, alike likely: how likely all places are covered");
        Fractions.hiddenIs(3, 1, 1, "0/1");
        Fractions.hiddenIs(3, 2, 1, "0/1");
        Fractions.hiddenIs(3, 3, 1, "1/1");
        Fractions.hiddenIs(3, 3, 6, "1/1");
        // all of three places are met by six in 540 of 729 ways
        Fractions.hiddenIs(3, 1, 6, "20/27");
        Fractions.hiddenIs(10, 10, 1, "1/1");
        Fractions.hiddenIs(10, 9, 1, "0/1");
        // any two that do not lie alike
        Fractions.hiddenIs(10, 9, 2, "9/10");
        Fractions.hiddenIs(10, 1, 6, "0/1");
        Fractions.hiddenIs(10, 4, 2, "0/1");
        Fractions.hiddenIs(10, 5, 2, "1/10");
        Fractions.hiddenIs(4, 2, 2, "1/4");
        Fractions.hiddenIs(6, 1, 6, "5/324");
        Fractions.hiddenIs(6, 1, 5, "0/1");
    }

    private static void hiddenAll() {
        Due.promise(16, "all rings, counted place by place");
        for (int n = 3; n <= 10; n++) {
            for (int a = 1; a <= n; a++) {
                long[][] known = new long[7][1 << n];
                for (int k = 1; k <= 6; k++) {
                    Model.Part due = Model.Part.of(ways(0, n, a, k, known), (long) Math.pow(n, k));
                    Fractions.hiddenIs(n, a, k, due.part(0) + "/" + due.part(1));
                }
            }
        }
    }

    /** In how many ways further arcs cover what is not covered; known ones are kept by one more. */
    private static long ways(int covered, int n, int a, int arcs, long[][] known) {
        if (arcs == 0) {
            return covered == (1 << n) - 1 ? 1 : 0;
        }
        if (known[arcs][covered] == 0) {
            long sum = 0;
            for (int start = 0; start < n; start++) {
                int now = covered;
                for (int i = 0; i < a; i++) {
                    now |= 1 << (start + i) % n;
                }
                sum += ways(now, n, a, arcs - 1, known);
            }
            known[arcs][covered] = sum + 1;
        }
        return known[arcs][covered] - 1;
    }
}
