/** Promises 12 to 16: what is likely by breakers. */
public final class LikelyPromisesTest {
    private static final long NO = BrokenThree.NO;

    public static void main(String[] args) {
        likely();
        likelyByKinds();
        likelyFewer();
        likelyRefused();
        mean();
        costs();
        until();
        hidden();
        Due.end("LikelyPromisesTest");
    }

    private static void likely() {
        Due.promise(12, "likely");
        // a stick of 5, two cuts: 1 1 3, 1 2 2 and what is alike, each of the six alike likely
        BrokenThree s = Lay.stick("long 5", 0);
        Fractions.likelyIs(s, 0, 0, 0, "1/2");
        Fractions.likelyIs(s, 0, 1, 0, "0/1");
        Fractions.likelyIs(s, 0, 2, 0, "0/1");
        Fractions.likelyIs(s, 0, 3, 2, "1/1");
        Fractions.likelyIs(s, 0, 3, 3, "1/2");
        Fractions.likelyIs(s, 0, 3, 4, "0/1");
        Fractions.likelyIs(s, 0, 4, 0, "1/1");
        Fractions.likelyIs(s, 0, 4, 1, "1/1");
        Fractions.likelyIs(s, 0, 4, 2, "0/1");
        Fractions.likelyIs(s, 0, 5, 0, "0/1");
        Fractions.likelyIs(s, 0, 6, 1, "1/1");
        Fractions.likelyIs(s, 0, 6, 2, "1/2");
        Fractions.likelyIs(s, 0, 6, 99, "0/1");
        Fractions.likelyIs(s, 0, 6, 0, "0/1");
        // of the 28 of a stick of 9: the six of 2 3 4 are blunt; unlike are the six of 1 2 6 and of 1 3 5, too
        s = Lay.stick("long 9", 0);
        Fractions.likelyIs(s, 0, 2, 0, "3/14");
        Fractions.likelyIs(s, 0, 5, 0, "9/14");
        Fractions.likelyIs(Lay.stick("long 12", 0), 0, 1, 0, "6/55");
        // the stick as it is does not count
        s = Lay.stick("long 5", 0);
        s.breaks(0, 0);
        s.breaks(0, 0);
        Fractions.likelyIs(s, 0, 0, 0, "1/2");
        Due.is("pieces, after", s.told(2), 3);
    }

    private static void likelyByKinds() {
        Due.promise(12, "likely, by kinds");
        BrokenThree s = Lay.stick("long 5", 1, 2, 3, 4);
        // longest: 1|4: 1 1 3, 1 2 2, 1 3 1; 2|3: 2 1 2, 2 2 1; alike from the right
        Fractions.likelyIs(s, 0, 0, 0, "2/3");
        // shortest open: 1|4 as above; 2|3: 1 1 3 alone
        Fractions.likelyIs(s, 1, 0, 0, "1/6");
        // left: 1|4: a third closes; 2|3: 1 1 3; 3|2: 1 2 2, 2 1 2; 4|1: a third
        Fractions.likelyIs(s, 2, 0, 0, "5/12");
        // halving: 2|3 or 3|2, then 3 at 1 or 2: 2 1 2, 2 2 1 and so on
        Fractions.likelyIs(s, 3, 0, 0, "1/1");
        BrokenThree thin = Lay.stick("long 5");
        thin.breaker(5, 2);
        // thin ones left alone: 2|3: 3 is broken; 1|4: 4; so as longest
        Fractions.likelyIs(thin, 0, 0, 0, "2/3");
        thin.breaker(5, 4);
        // nothing above 4 is left behind the first break
        Fractions.likelyIs(thin, 1, 0, 0, "0/1");
        Fractions.meanIs(thin, 1, 2, "0/1");
        BrokenThree told = Lay.stick("long 5", 6);
        told.row(0, 1, 1);
        // the second open one, modulo: 1|4 and 4|1 have one open, 2|3: 3; 3|2: 2
        Fractions.likelyIs(told, 0, 0, 0, "5/12");
    }

    private static void likelyFewer() {
        Due.promise(12, "likely, if nothing can be broken any more");
        BrokenThree s = Lay.stick("long 2;cuts 3", 0);
        Fractions.likelyIs(s, 0, 3, 1, "1/1");
        Fractions.likelyIs(s, 0, 3, 2, "0/1");
        Fractions.likelyIs(s, 0, 5, 0, "0/1");
        s = Lay.stick("long 6;hard 1 x>0", 0);
        Fractions.likelyIs(s, 0, 3, 6, "1/1");
        Fractions.likelyIs(s, 0, 4, 6, "1/1");
        Fractions.likelyIs(s, 0, 5, 0, "1/1");
        Fractions.likelyIs(s, 0, 0, 0, "0/1");
        // c: how many there are; after the first none can be made
        s = Lay.stick("long 6;cuts 3;hard 1 c=1&x>2|c=1&x<2", 0);
        // first at 1 .. 5; second at 2 alone, if the first was not there
        Fractions.likelyIs(s, 0, 6, 1, "4/5");
        s = Lay.stick("long 17;cuts 3", 0);
        // 17 has 11 sums of four unlike lengths, each in 24 orders, of 560
        Fractions.likelyIs(s, 0, 5, 0, "33/70");
        Fractions.likelyIs(s, 0, 4, 1, "1/1");
        Fractions.likelyIs(s, 0, 3, 14, "1/140");
        Fractions.likelyIs(s, 0, 3, 1, "1/1");
    }

    private static void likelyRefused() {
        Due.promise(12, "likely, refused");
        BrokenThree s = Lay.stick("long 5", 0);
        int[][] wrong = {{1, 0, 0, 0}, {-1, 0, 0, 0}, {0, -1, 0, 0}, {0, 7, 0, 0}, {0, 0, -1, 0}, {0, 0, 100, 0},
            {0, 0, 0, -1}, {0, 0, 0, 2}};
        for (int[] w : wrong) {
            Due.is("likely" + java.util.Arrays.toString(w), s.likely(w[0], w[1], w[2], w[3]), NO);
        }
        Due.is("likely(0, 0, 99, 1)", s.likely(0, 0, 99, 1), 2);
    }

    private static void mean() {
        Due.promise(13, "mean");
        BrokenThree s = Lay.stick("long 5", 0, 4);
        Fractions.meanIs(s, 0, 0, "1/1");
        Fractions.meanIs(s, 0, 1, "3/2");
        Fractions.meanIs(s, 0, 2, "5/2");
        Fractions.meanIs(s, 0, 3, "0/1");
        Fractions.meanIs(s, 1, 0, "1/1");
        Fractions.meanIs(s, 1, 1, "2/1");
        Fractions.meanIs(s, 1, 2, "2/1");
        BrokenThree two = Lay.stick("long 2;cuts 3", 0);
        Fractions.meanIs(two, 0, 1, "1/1");
        Fractions.meanIs(two, 0, 2, "0/1");
        BrokenThree hard = Lay.stick("long 7;hard 1 x<9", 0);
        Fractions.meanIs(hard, 0, 0, "7/1");
        Fractions.meanIs(hard, 0, 1, "0/1");
        BrokenThree four = Lay.stick("long 5;cuts 3", 0);
        Fractions.meanIs(four, 0, 3, "2/1");
        Due.is("mean(2, 0, 0)", s.mean(2, 0, 0), NO);
        Due.is("mean(0, -1, 0)", s.mean(0, -1, 0), NO);
        Due.is("mean(0, 4, 0)", s.mean(0, 4, 0), NO);
        Due.is("mean(0, 0, 2)", s.mean(0, 0, 2), NO);
        Due.is("mean(0, 0, -1)", s.mean(0, 0, -1), NO);
    }

    private static void costs() {
        Due.promise(14, "costs");
        Fractions.costsAre(Lay.stick("long 5", 0), 0, "0/1");
        Fractions.costsAre(Lay.stick("long 5;cuts 1;price 4 x=1", 0), 0, "1/1");
        Fractions.costsAre(Lay.stick("long 5;cuts 1;price 4 x=1;price 3 x<3", 0), 0, "5/2");
        Fractions.costsAre(Lay.stick("long 5;cuts 2;price 1 x=1", 0), 0, "1/2");
        Fractions.costsAre(Lay.stick("long 5;cuts 2;price 10 c=1", 0), 0, "10/1");
        Fractions.costsAre(Lay.stick("long 5;cuts 2;price 1 l=3", 0), 0, "1/3");
        Fractions.costsAre(Lay.stick("long 2;cuts 3;price 5 x>0", 0), 0, "5/1");
        Fractions.costsAre(Lay.stick("long 9;price 7 k=4", 0, 4), 0, "0/1");
        Fractions.costsAre(Lay.stick("long 9;price 7 k=4", 0, 4), 1, "14/1");
        Fractions.costsAre(Lay.stick("long 5;price 5 x>0;hard 1 x>0", 0), 0, "0/1");
        Fractions.costsAre(Lay.stick("long 17;cuts 3;price 99 x>0;price 99 l>0;price 99 c<3;price 99 r>0;price 99 k=0;price 99 x<17"
            , 0), 0, "1782/1");
        BrokenThree s = Lay.stick("long 5", 0);
        Due.is("costs(1, 0)", s.costs(1, 0), NO);
        Due.is("costs(-1, 0)", s.costs(-1, 0), NO);
        Due.is("costs(0, 2)", s.costs(0, 2), NO);
        Due.is("costs(0, -1)", s.costs(0, -1), NO);
    }

    private static void until() {
        Due.promise(15, "until");
        BrokenThree s = Lay.stick("long 3;hard 9 x>0", 0);
        Fractions.untilIs(s, 1, "3/1");
        Fractions.untilIs(s, 2, "2/1");
        Fractions.untilIs(s, 3, "1/1");
        Fractions.untilIs(s, 16, "1/1");
        // 4, m 2: at 1, 3: 1 and 3, which is two; at 2: two
        s = Lay.stick("long 4", 0);
        Fractions.untilIs(s, 2, "8/3");
        s.breaks(0, 0);
        Fractions.untilIs(s, 2, "8/3");
        Fractions.untilIs(Lay.stick("long 17"), 16, "2/1");
        Fractions.untilIs(Lay.stick("long 17"), 7, "17/4");
        Due.is("until(0, 0)", s.until(0, 0), NO);
        Due.is("until(17, 0)", s.until(17, 0), NO);
        Due.is("until(1, 2)", s.until(1, 2), NO);
        Due.is("until(16, -1)", s.until(16, -1), NO);
    }

    private static void hidden() {
        Due.promise(16, "hidden");
        Fractions.hiddenIs(3, 1, 3, "2/9");
        Fractions.hiddenIs(3, 1, 2, "0/1");
        Fractions.hiddenIs(3, 2, 2, "2/3");
        Fractions.hiddenIs(3, 3, 1, "1/1");
        Fractions.hiddenIs(6, 3, 2, "1/6");
        Fractions.hiddenIs(10, 5, 2, "1/10");
        Fractions.hiddenIs(6, 1, 6, "5/324");
        Fractions.hiddenIs(10, 10, 6, "1/1");
        Fractions.hiddenIs(10, 1, 6, "0/1");
        BrokenThree s = new BrokenThree();
        int[][] wrong = {{2, 1, 1, 0}, {11, 1, 1, 0}, {3, 0, 1, 0}, {3, 4, 1, 0}, {3, 1, 0, 0}, {3, 1, 7, 0},
            {3, 1, 1, 2}, {3, 1, 1, -1}};
        for (int[] w : wrong) {
            Due.is("hidden" + java.util.Arrays.toString(w), s.hidden(w[0], w[1], w[2], w[3]), NO);
        }
    }
}
