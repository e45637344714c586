/** Promises 23 to 30: rows told back, and the book. */
public final class RowPromisesTest {
    public static void main(String[] args) {
        see();
        orders();
        ordersFewer();
        chance();
        lost();
        who();
        likeliest();
        book();
        looked();
        Due.end("RowPromisesTest");
    }

    private static void see() {
        Due.promise(23, "see");
        BrokenThree s = new BrokenThree();
        Due.is("see(0)", s.see(0), BrokenThree.BAD);
        Due.is("see(18)", s.see(18), BrokenThree.BAD);
        Due.is("see(-2)", s.see(-2), BrokenThree.BAD);
        Due.is("see(17)", s.see(17), 1);
        Due.is("see(1)", s.see(1), 2);
        Due.is("see(1)", s.see(1), 3);
        Due.is("see(1)", s.see(1), 4);
        Due.is("see(1), full", s.see(1), BrokenThree.FULL);
        Due.is("see(18), full", s.see(18), BrokenThree.BAD);
        Due.is("count(3)", s.count(3), 4);
        Due.is("see(-1)", s.see(-1), 0);
        Due.is("count(3)", s.count(3), 0);
    }

    private static void orders() {
        Due.promise(24, "orders");
        BrokenThree s = Lay.stick("long 9;cuts 3", 0, 1, 2, 3, 4);
        Lay.seen(s, 2, 3, 2, 2);
        Due.is("anywhere", s.orders(0), 6);
        // at 2, 5, 7; 2, 7, 5; 5, 2, 7; 7, 2, 5; 7, 5, 2
        Due.is("longest", s.orders(1), 5);
        // a 2 would be broken next, or the 2 that comes of the 4
        Due.is("shortest", s.orders(2), 0);
        // at 7, 5, 2 alone: a 2 on the left would be broken next
        Due.is("left", s.orders(3), 1);
        Due.is("halving", s.orders(4), 1);
        Lay.seen(s, 1, 1, 1, 6);
        // at 1, 2, 3; 1, 3, 2; 2, 1, 3; 3, 1, 2; 3, 2, 1
        Due.is("left", s.orders(3), 5);
        Lay.seen(s, 3, 3, 3);
        Due.is("fewer pieces than can be", s.orders(0), 0);
        Lay.seen(s, 3, 3, 2, 2);
        Due.is("too long", s.orders(0), 0);
        Lay.seen(s, 3, 2, 2, 1);
        Due.is("too short", s.orders(0), 0);
        Lay.seen(s, 17, 17, 17, 17);
        Due.is("far too long", s.orders(0), 0);
        Lay.seen(s);
        Due.is("nothing told", s.orders(0), 0);
        BrokenThree one = Lay.seen(Lay.stick("long 9;cuts 1", 0), 3, 3, 3);
        Due.is("more pieces than cuts and 1", one.orders(0), 0);
        one = Lay.seen(Lay.stick("long 3;cuts 1", 0), 1, 1, 1);
        Due.is("more pieces than cuts and 1, though nothing is left to break", one.orders(0), 0);
        BrokenThree hard = Lay.seen(Lay.stick("long 9;hard 1 x=3&c=0", 0), 3, 3, 3);
        Due.is("first at 6", hard.orders(0), 1);
        Due.is("orders(1)", hard.orders(1), BrokenThree.NONE);
        Due.is("orders(-1)", hard.orders(-1), BrokenThree.NONE);
    }

    private static void ordersFewer() {
        Due.promise(24, "orders, if nothing can be broken any more");
        BrokenThree s = Lay.stick("long 9;cuts 3;hard 1 c>0", 0);
        Due.is("4 5", Lay.seen(s, 4, 5).orders(0), 1);
        Due.is("4 2 3", Lay.seen(s, 4, 2, 3).orders(0), 0);
        Due.is("9", Lay.seen(s, 9).orders(0), 0);
        s = Lay.stick("long 9;hard 1 x>0", 0);
        Due.is("9", Lay.seen(s, 9).orders(0), 1);
        s = Lay.stick("long 3;cuts 3", 0);
        Due.is("1 1 1", Lay.seen(s, 1, 1, 1).orders(0), 2);
        s = Lay.stick("long 6;cuts 3");
        s.breaker(5, 3);
        Due.is("2 2 2: at 2 or 4 first, the 4 left", Lay.seen(s, 2, 2, 2).orders(0), 2);
        Due.is("3 3: neither is longer than 3", Lay.seen(s, 3, 3).orders(0), 1);
        Due.is("2 4", Lay.seen(s, 2, 4).orders(0), 0);
    }

    private static void chance() {
        Due.promise(25, "chance");
        BrokenThree s = Lay.seen(Lay.stick("long 5", 0, 1, 3, 4), 2, 2, 1);
        Fractions.chanceIs(s, 0, "1/6");
        // first at 2: at 4 is one of two; first at 4: at 2 one of three
        Fractions.chanceIs(s, 1, "5/24");
        // first at 2: the left 2 is next; first at 4: one of three
        Fractions.chanceIs(s, 2, "1/12");
        Fractions.chanceIs(s, 3, "1/4");
        Fractions.chanceIs(Lay.seen(s, 2, 2), 0, "0/1");
        Fractions.chanceIs(Lay.seen(Lay.stick("long 9;hard 1 x>0", 0), 9), 0, "1/1");
        Fractions.chanceIs(Lay.seen(Lay.stick("long 9;cuts 3;hard 1 c>0", 0), 4, 5), 0, "1/8");
        Fractions.chanceIs(Lay.seen(Lay.stick("long 17;cuts 3", 0), 1, 2, 3, 11), 0, "1/560");
        Due.is("chance(4, 0)", s.chance(4, 0), BrokenThree.NO);
        Due.is("chance(-1, 0)", s.chance(-1, 0), BrokenThree.NO);
        Due.is("chance(0, 2)", s.chance(0, 2), BrokenThree.NO);
        Due.is("chance(0, -1)", s.chance(0, -1), BrokenThree.NO);
    }

    private static void lost() {
        Due.promise(26, "lost");
        BrokenThree s = Lay.stick("long 9;cuts 2", 0, 4);
        Due.is("3 3, anywhere", Lay.seen(s, 3, 3).lost(0), 7);
        // 9 halves at 4 or 5, then the 5 at its 2 or 3
        Due.is("4 3, a 2 not ahead of all", Lay.seen(s, 4, 3).lost(1), 6);
        Due.is("2 4, a 3 ahead of the 4", Lay.seen(s, 2, 4).lost(1), 3);
        Due.is("4 5: nothing lacks", Lay.seen(s, 4, 5).lost(0), 0);
        Due.is("4 6: less than nothing", Lay.seen(s, 4, 6).lost(0), 0);
        Due.is("4: but two pieces", Lay.seen(s, 4).lost(0), 0);
        Due.is("1 2 3: too many then", Lay.seen(s, 1, 2, 3).lost(0), 0);
        Due.is("nothing told: whole", Lay.seen(s).lost(0), 0);
        Due.is("rows stay", s.count(3), 0);
        BrokenThree hard = Lay.stick("long 9;hard 1 x>0", 0);
        Due.is("nothing told: whole", Lay.seen(hard).lost(0), 1);
        BrokenThree once = Lay.stick("long 9;cuts 3;hard 1 c>0", 0);
        Due.is("4 5: nothing lacks, though no break is left", Lay.seen(once, 4, 5).lost(0), 0);
        Due.is("8: a 1", Lay.seen(once, 8).lost(0), 3);
        BrokenThree three = Lay.stick("long 9;cuts 3", 0, 3);
        Due.is("1 1 1, a 6", Lay.seen(three, 1, 1, 1).lost(0), 15);
        Due.is("2 2 2, a 3, from the left", Lay.seen(three, 2, 2, 2).lost(1), 15);
        Due.is("four, however short", Lay.seen(three, 1, 1, 1, 1).lost(0), 0);
        Due.is("lost(2)", three.lost(2), BrokenThree.NONE);
        Due.is("lost(-1)", three.lost(-1), BrokenThree.NONE);
    }

    private static void who() {
        Due.promise(27, "who");
        BrokenThree s = Lay.stick("long 9;cuts 3", 2, 1, 4, 0, 3);
        Due.is("2 3 2 2", Lay.seen(s, 2, 3, 2, 2).who(), 2 + 4 + 8 + 16);
        Due.is("4 5", Lay.seen(s, 4, 5).who(), 0);
        Due.is("nobody", Lay.seen(Lay.stick("long 9;hard 1 x>0"), 9).who(), 0);
        BrokenThree kinds = Lay.stick("long 9;cuts 1;hard 1 k=1&x=3|k=3&x>3", 0, 1, 3, 3, 0, 0);
        Due.is("3 6", Lay.seen(kinds, 3, 6).who(), 63 - 2);
        Due.is("6 3", Lay.seen(kinds, 6, 3).who(), 63 - 12);
    }

    private static void likeliest() {
        Due.promise(28, "likeliest");
        BrokenThree s = Lay.stick("long 5", 0, 1, 3, 4, 4);
        Due.is("2 2 1", Lay.seen(s, 2, 2, 1).likeliest(), 3);
        Due.is("3 1 1", Lay.seen(s, 3, 1, 1).likeliest(), 0);
        Due.is("4 2", Lay.seen(s, 4, 2).likeliest(), -5);
        Due.is("nobody", Lay.seen(Lay.stick("long 5"), 2, 2, 1).likeliest(), -5);
        // few first ways against many
        BrokenThree kinds = Lay.stick("long 9;cuts 1;hard 1 k=0&x>7|k=1&x>5", 0, 1, 3, 1);
        Due.is("3 6", Lay.seen(kinds, 3, 6).likeliest(), 1);
        Due.is("6 3", Lay.seen(kinds, 6, 3).likeliest(), 0);
        Due.is("8 1", Lay.seen(kinds, 8, 1).likeliest(), 2);
    }

    private static void book() {
        Due.promise(29, "book");
        BrokenThree s = new BrokenThree();
        Due.is("book(0, 1, 1, true)", s.book(0, 1, 1, true), BrokenThree.BAD);
        Due.is("book(1, 100, 1, true)", s.book(1, 100, 1, true), BrokenThree.BAD);
        Due.is("book(1, 1, -1, true)", s.book(1, 1, -1, true), BrokenThree.BAD);
        Due.is("book(-2, 1, 1, true)", s.book(-2, 1, 1, true), BrokenThree.BAD);
        for (int i = 1; i <= 8; i++) {
            Due.is("book(1, 99, 99, true)", s.book(1, 99, 99, true), i);
        }
        Due.is("book(1, 1, 1, true), full", s.book(1, 1, 1, true), BrokenThree.FULL);
        Due.is("book(1, 0, 1, true), full", s.book(1, 0, 1, true), BrokenThree.BAD);
        Due.is("count(4)", s.count(4), 8);
        Due.is("book(-1, 200, -7, false)", s.book(-1, 200, -7, false), 0);
        Due.is("count(4)", s.count(4), 0);
    }

    private static void looked() {
        Due.promise(30, "looked");
        BrokenThree s = new BrokenThree();
        Due.is("looked()", s.looked(), -5);
        s.book(3, 4, 5, true);
        s.book(1, 2, 3, false);
        s.book(3, 1, 2, false);
        s.book(5, 9, 5, true);
        Due.is("looked()", s.looked(), -5);
        s.book(2, 3, 1, true);
        s.book(1, 1, 1, false);
        Due.is("looked()", s.looked(), 4);
        s.book(-1, 0, 0, true);
        Due.is("looked()", s.looked(), -5);
        s.book(1, 1, 1, false);
        Due.is("looked()", s.looked(), 0);
    }
}
