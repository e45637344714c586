/** Promises 1 to 3, sentence by sentence: the tape and yards at the edges that the document names. */
public final class YardEdgesTest {
    private static final int MIN = Integer.MIN_VALUE;
    private static final int MAX = Integer.MAX_VALUE;

    public static void main(String[] args) {
        newObject();
        objectsApart();
        signs();
        tapeOfHundred();
        emptyTape();
        clausesAtMost();
        clausesBetween();
        words();
        blanks();
        numbers();
        tests();
        joints();
        openAtMost();
        openEnds();
        allSigns();
        yardsAtMost();
        fullAheadOfAll();
        newestHolds();
        faultChangesNoYard();
        lengths();
        cuts();
        onePiece();
        Due.end("YardEdgesTest");
    }

    /** The fault's place of a text; -1: it is a yard. */
    private static void fault(String text, int place) {
        BrokenThree s = new BrokenThree();
        Due.is("yard() of \"" + text + "\"", Lay.yard(s, text), place < 0 ? 0 : -10 - place);
        Due.is("signs left of \"" + text + "\"", s.count(5), 0);
        Due.is("yards by \"" + text + "\"", s.count(1), place < 0 ? 1 : 0);
    }

    private static void newObject() {
        Due.promise(1, "nobody");
        BrokenThree s = new BrokenThree();
        Due.is("of(0, 0)", s.of(0, 0), BrokenThree.NONE);
        Due.is("orders(0)", s.orders(0), BrokenThree.NONE);
        Due.is("who()", s.who(), 0);
        Due.is("likeliest()", s.likeliest(), -5);
        Due.is("likely(0, 0, 0, 0)", s.likely(0, 0, 0, 0), BrokenThree.NO);
        Due.is("act(0, 0, 1)", s.act(0, 0, 1), 0);
        Due.promise(1, "a stick of 12, one piece");
        Due.text("pieces", Lay.pieces(s), "12");
        Due.is("shape(0)", s.shape(0), 0);
        Due.is("shape(1)", s.shape(1), 0);
        Due.is("shape(2)", s.shape(2), 0);
        Due.is("shape(3)", s.shape(3), 12);
        Due.is("shape(4)", s.shape(4), 12);
        Due.is("whole()", s.whole(), 1);
        Due.promise(1, "all else is empty");
        Due.is("triangles()", s.triangles(), 0);
        Due.is("none(0)", s.none(0), 0);
        Due.is("looked()", s.looked(), -5);
        Due.is("trace(0)", s.trace(0), BrokenThree.NONE);
        Due.is("undo()", s.undo(), BrokenThree.STATE);
        Due.promise(1, "no yard: no clauses, a length of 12, two cuts");
        Due.is("breaker(0, 0), the first", s.breaker(0, 0), 0);
        Lay.mayIs(s, 0, "1,2,3,4,5,6,7,8,9,10,11");
        Due.is("costs(0, 0)", s.costs(0, 0), 0);
        Due.fraction("mean(0, 2)", s.mean(0, 2, 0), s.mean(0, 2, 1), "379/55");
        Due.fraction("mean(0, 3)", s.mean(0, 3, 0), s.mean(0, 3, 1), "0/1");
        s.breaks(0, 0);
        Due.is("told(3)", s.told(3), 0);
        Due.is("the first yard", Lay.yard(s, "long 3"), 0);
    }

    private static void objectsApart() {
        Due.promise(1, "objects have nothing together");
        BrokenThree one = Lay.broken(Lay.stick("long 7;cuts 3", 6), 0, 3);
        one.row(0, 0, 5);
        one.box(4);
        one.see(4);
        one.book(1, 1, 1, false);
        one.feed('l');
        one.act(0, 0, 1);
        one.image();
        BrokenThree other = new BrokenThree();
        for (int what = 0; what <= 6; what++) {
            Due.is("count(" + what + ")", other.count(what), 0);
        }
        Due.text("pieces", Lay.pieces(other), "12");
        Due.is("undo()", other.undo(), BrokenThree.STATE);
        Due.is("trace(0)", other.trace(0), BrokenThree.NONE);
        other.breaker(6, 0);
        Due.is("row(0, 0, 0)", other.row(0, 0, 0), 0);
        Due.text("pieces of the first", Lay.pieces(one), "3,4");
    }

    private static void signs() {
        Due.promise(2, "a sign (0 .. 127)");
        BrokenThree s = new BrokenThree();
        for (int sign : new int[] {-1, 128, 256, -128, MIN, MAX}) {
            Due.is("feed(" + sign + ")", s.feed(sign), BrokenThree.BAD);
        }
        Due.is("count(5)", s.count(5), 0);
        Due.is("feed(0)", s.feed(0), 1);
        Due.is("feed(127)", s.feed(127), 2);
        Due.promise(2, "behind the tape's");
        Due.is("yard(), 0 being no word", s.yard(), -10);
        Lay.feed(s, "long ");
        s.feed(127);
        Due.is("yard(), 127 being no digit", s.yard(), -15);
        Due.is("feed('l'), the tape being empty", s.feed('l'), 1);
    }

    private static String times(String text, int times) {
        StringBuilder all = new StringBuilder();
        for (int i = 0; i < times; i++) {
            all.append(text);
        }
        return all.toString();
    }

    private static void tapeOfHundred() {
        Due.promise(2, "100 signs at most");
        BrokenThree s = new BrokenThree();
        String head = "long 9;cuts 3;hard 1 ";
        String text = head + times("x=4|", 19) + "x=8";
        Due.is("signs", text.length(), 100);
        for (int i = 0; i < 100; i++) {
            Due.is("feed(" + text.charAt(i) + ")", s.feed(text.charAt(i)), i + 1);
        }
        Due.is("feed('1'), full", s.feed('1'), BrokenThree.FULL);
        Due.is("feed(0), full", s.feed(0), BrokenThree.FULL);
        Due.is("feed(127), full", s.feed(127), BrokenThree.FULL);
        Due.is("feed(128), full", s.feed(128), BrokenThree.BAD);
        Due.is("feed(-1), full", s.feed(-1), BrokenThree.BAD);
        Due.is("count(5)", s.count(5), 100);
        Due.promise(3, "a yard of 100 signs, the last one read, the refused ones not");
        Due.is("yard()", s.yard(), 0);
        s.breaker(0, 0);
        Lay.mayIs(s, 0, "1,2,3,5,6,7");
        Due.is("feed('l'), the tape being empty", s.feed('l'), 1);
        Due.promise(3, "the size, if it ends too early");
        fault(head + times("x=4|", 19) + "xx=", 98);
        fault(head + times("x=4|", 19) + "x=x", 99);
        fault(head + times("x=4|", 18) + "x=14|x=", 100);
        fault(head + times("x=4&", 18) + "x=14&!!", 100);
        fault("hard 1 " + times("x=1|", 22) + "(x=1)", -1);
        fault("hard 1 " + times("x=1|", 22) + "(x=12", 100);
        fault(times("long 9;", 9) + "price 9 " + times("r>1&", 7) + "l", 100);
    }

    private static void emptyTape() {
        Due.promise(3, "an empty tape ends too early");
        BrokenThree s = new BrokenThree();
        Due.is("yard()", s.yard(), -10);
        Due.is("yard(), again", s.yard(), -10);
        Due.is("count(1)", s.count(1), 0);
        Due.is("count(5)", s.count(5), 0);
        Due.is("yard()", Lay.yard(s, "long 5"), 0);
        Due.is("yard(), the tape being empty then", s.yard(), -10);
        Due.is("the one that held holds", s.told(0), 5);
    }

    private static void clausesAtMost() {
        Due.promise(3, "clauses, 10 at most");
        fault(times("cuts 1;", 9) + "long 5", -1);
        fault(times("cuts 1;", 9) + "long 5;", 69);
        fault(times("cuts 1;", 9) + "long 5;cuts 1", 69);
        fault(times("long 9;", 10), 69);
        fault(times("long 9;", 9), 63);
        fault(times("cuts 1;", 9) + "long 5 ", 69);
        fault(times("cuts 1;", 9) + "hard 1 x=1", -1);
        fault(times("cuts 1;", 9) + "hard 1 x=1;", 73);
        fault(times("cuts 1;", 9) + "price 1 x=1;c", 74);
        BrokenThree s = Lay.stick(times("cuts 1;", 9) + "long 5", 0);
        Due.is("told(0), by the tenth", s.told(0), 5);
        s = Lay.stick(times("cuts 1;", 9) + "hard 1 x>1", 0);
        Lay.mayIs(s, 0, "1");
        s = Lay.stick(times("cuts 1;", 9) + "price 7 x=1", 0);
        s.breaks(0, 0);
        Due.is("told(3), by the tenth", s.told(3), 7);
        s = Lay.stick("hard 1 x=1;hard 1 x=2;hard 1 x=3;hard 1 x=4;hard 1 x=5;hard 1 x=6;hard 1 x=7;hard 1 x=8;hard 1 x=9", 0);
        Lay.mayIs(s, 0, "10,11");
        s = Lay.stick("price 1 x=1;price 2 x=1;price 4 x=1;price 8 x=1;price 1 l>1;price 9 x=2;price 9 x=1", 0);
        s.breaks(0, 0);
        Due.is("told(3), by all that hold", s.told(3), 25);
    }

    private static void clausesBetween() {
        Due.promise(3, "with ; between");
        fault(";", 0);
        fault(";long 3", 0);
        fault("long 3;", 7);
        fault("long 3;;long 3", 7);
        fault("long 3,long 3", 6);
        fault("long 3long 3", 6);
        fault("long 3 ;long 3", 6);
        fault("long 3; long 3", 7);
        fault("long 3;long 3;cuts 1;hard 1 x=1;price 1 x=1;long 3", -1);
        fault("hard 1 x=1;;", 11);
        fault("hard 1 x=1;", 11);
        fault("hard 1;long 3", 6);
        fault("hard 1 ;long 3", 7);
        fault("long 3;long", 11);
    }

    private static void words() {
        Due.promise(3, "long, cuts, hard, price");
        String[] words = {"long", "cuts", "hard", "price"};
        for (String word : words) {
            for (int size = 0; size <= word.length(); size++) {
                fault(word.substring(0, size), size);
                fault(word.substring(0, size) + "z", size);
                fault(word.substring(0, size).toUpperCase(), 0);
            }
            fault(word + "s 1", word.length());
            fault("long 4;" + word, 7 + word.length());
        }
        fault("lard 1", 1);
        fault("hong 1", 1);
        fault("long 3 x=1", 6);
        fault("cuts 3 x=1", 6);
    }

    private static void blanks() {
        Due.promise(3, "one blank ahead of each part behind the word");
        fault(" long 3", 0);
        fault("long3", 4);
        fault("long  3", 5);
        fault("long\t3", 4);
        fault("long 3 ", 6);
        fault("hard1 x=1", 4);
        fault("hard  1 x=1", 5);
        fault("hard 1x=1", 6);
        fault("hard 1  x=1", 7);
        fault("hard 1 x =1", 8);
        fault("hard 1 x= 1", 9);
        fault("hard 1 x=1 ", 10);
        fault("hard 1 x=1 |x=2", 10);
        fault("hard 1 x=1| x=2", 11);
        fault("hard 1 ! x=1", 8);
        fault("hard 1 ( x=1)", 8);
        fault("hard 1 (x=1 )", 11);
        fault("price1 x=1", 5);
        fault("price  1 x=1", 6);
        fault("price 1x=1", 7);
        fault("price 1  x=1", 8);
    }

    private static void numbers() {
        Due.promise(3, "n 1 or 2 digits, no 0 ahead of another");
        String[] heads = {"long ", "cuts ", "hard 1 x=", "hard 1 r<", "price 1 k>", "hard 1 l=1|c>"};
        for (String head : heads) {
            int n = head.length();
            fault(head, n);
            fault(head + "0", -1);
            fault(head + "1", -1);
            fault(head + "9", -1);
            fault(head + "10", -1);
            fault(head + "99", -1);
            fault(head + "00", n + 1);
            fault(head + "01", n + 1);
            fault(head + "09", n + 1);
            fault(head + "100", n + 2);
            fault(head + "999", n + 2);
            fault(head + "-1", n);
            fault(head + "+1", n);
            fault(head + "1.", n + 1);
            fault(head + "/", n);
            fault(head + ":", n);
            fault(head + "5/", n + 1);
            fault(head + "5:", n + 1);
        }
        for (String head : new String[] {"hard ", "price "}) {
            int n = head.length();
            fault(head + "0 x=1", -1);
            fault(head + "99 x=1", -1);
            fault(head + "00 x=1", n + 1);
            fault(head + "07 x=1", n + 1);
            fault(head + "100 x=1", n + 2);
            fault(head + "x=1", n);
        }
    }

    private static void tests() {
        Due.promise(3, "a test: x or r or l or c or k, one of < = >, a number");
        for (int letter = 0; letter < 128; letter++) {
            if (letter != '!' && letter != '(') {
                fault("hard 1 " + (char) letter + "=1", "xrlck".indexOf(letter) >= 0 ? -1 : 7);
            }
            fault("hard 1 x" + (char) letter + "1", "<=>".indexOf(letter) >= 0 ? -1 : 8);
        }
        fault("hard 1 x<=1", 9);
        fault("hard 1 x==1", 9);
        fault("hard 1 x", 8);
        fault("hard 1 x<", 9);
        fault("hard 1 1=x", 7);
        fault("hard 1 xx=1", 8);
    }

    private static void joints() {
        Due.promise(3, "E: T, or T|E. T: F, or F&T");
        fault("hard 1 x=1|x=2|x=3", -1);
        fault("hard 1 x=1&x=2&x=3", -1);
        fault("hard 1 |x=1", 7);
        fault("hard 1 &x=1", 7);
        fault("hard 1 x=1||x=2", 11);
        fault("hard 1 x=1&&x=2", 11);
        fault("hard 1 x=1|", 11);
        fault("hard 1 x=1&", 11);
        fault("hard 1 x=1|;", 11);
        fault("hard 1 x=1x=2", 10);
        fault("hard 1 x=1(x=2)", 10);
        fault("hard 1 (x=1)x=2", 12);
        fault("hard 1 (x=1)(x=2)", 12);
        fault("hard 1 x=1!", 10);
        Due.promise(3, "F: !F, (E), or a test");
        fault("hard 1 !", 8);
        fault("hard 1 (", 8);
        fault("hard 1 ()", 8);
        fault("hard 1 )", 7);
        fault("hard 1 x=1)", 10);
        fault("hard 1 (x=1", 11);
        fault("hard 1 (x=1))", 12);
        fault("hard 1 (x=1;long 3", 11);
        fault("hard 1 (x=1|x=2", 15);
        fault("hard 1 (x=1|x=2)&(x=3&x=4)|!(x=5)", -1);
        fault("hard 1 !!x=1", -1);
        fault("hard 1 !(x=1)", -1);
        fault("hard 1 (!x=1)", -1);
        fault("hard 1 !&x=1", 8);
        fault("hard 1 (|x=1)", 8);
        fault("hard 1 !)", 8);
    }

    private static void openAtMost() {
        Due.promise(3, "at most 5 of ! and ( are open");
        for (int brackets = 0; brackets <= 5; brackets++) {
            String open = times("!", 5 - brackets) + times("(", brackets);
            String shut = times(")", brackets);
            fault("hard 1 " + open + "x=1" + shut, -1);
            fault("hard 1 " + open + "!x=1" + shut, 12);
            fault("hard 1 " + open + "(x=1)" + shut, 12);
            open = times("(", brackets) + times("!", 5 - brackets);
            fault("hard 1 " + open + "x=1" + shut, -1);
            fault("price 1 " + open + "!x=1" + shut, 13);
            fault("price 1 " + open + "(x=1)" + shut, 13);
        }
        fault("hard 1 !!!!!", 12);
        fault("hard 1 !!!!!!", 12);
        fault("hard 1 (((((", 12);
        fault("hard 1 ((((((", 12);
    }

    private static void openEnds() {
        Due.promise(3, "a ( till its ), a ! till its F ends");
        fault("hard 1 (((((x=1)))))|(((((x=1)))))&(((((x=1)))))", -1);
        fault("hard 1 !!!!!x=1|!!!!!x=1&!!!!!x=1", -1);
        fault("hard 1 !!!!!x=1&!!!!!!x=1", 21);
        fault("hard 1 !!!!!x=1|((((((x=1", 21);
        fault("hard 1 !!!!(x=1|x=2)", -1);
        // the ! outside are open till their brackets end
        fault("hard 1 !!!!(x=1|!x=2)", 16);
        fault("hard 1 !!!!(x=1)|!!!!(x=2)", -1);
        fault("hard 1 !(!(!x=1&!x=2))", -1);
        fault("hard 1 !(!(!!x=1))", 12);
        fault("hard 1 !(!(!x=1)&(!x=2))", -1);
        fault("hard 1 !(!(!x=1)&(!!x=2))", -1);
        fault("hard 1 !(!(!x=1)&(!!!x=2))", 20);
        fault("hard 1 ((((x=1)&(x=2))))", -1);
        fault("hard 1 ((((x=1)&((x=2)))))", -1);
        fault("hard 1 ((((x=1)&(((x=2))))))", 18);
        fault("hard 1 (((!x=1&((x=2)))))", -1);
        fault("hard 1 (((!x=1&(((x=2))))))", 17);
        fault("hard 1 !!!!!x=1;hard 1 !!!!!x=1", -1);
    }

    /** Every sign at every place of some texts, beside a reader of another making. */
    private static void allSigns() {
        Due.promise(3, "the first byte with which no yard can go on");
        String[] texts = {"long 17;cuts 3;hard 10 !(x=1|r<2)&l>3;price 0 c=1", "hard 1 !!!!!k=6|(((!x>99)))", "price 99 x<0&!r=10|(l>1)",
            times("cuts 1;", 9) + "long 12"};
        for (String text : texts) {
            for (int place = 0; place <= text.length(); place++) {
                String head = text.substring(0, place);
                Due.is("yard() of \"" + head + "\"", Lay.yard(new BrokenThree(), head), answer(head));
                for (int sign = 0; sign < 128; sign++) {
                    String put = head + (char) sign + text.substring(Math.min(text.length(), place + 1));
                    Due.is("yard() of \"" + put + "\"", Lay.yard(new BrokenThree(), put), answer(put));
                }
            }
        }
    }

    private static int answer(String text) {
        int fault = Model.faultOf(text);
        return fault < 0 ? 0 : -10 - fault;
    }

    private static void yardsAtMost() {
        Due.promise(3, "yards are numbered from 0 on, 5 at most");
        BrokenThree s = new BrokenThree();
        for (int number = 0; number < 5; number++) {
            Due.is("count(1)", s.count(1), number);
            Due.is("yard() of a fault", Lay.yard(s, "long"), -14);
            Due.is("yard()", Lay.yard(s, "long " + (5 + number)), number);
        }
        Due.is("count(1)", s.count(1), 5);
        Due.is("yard(), full", Lay.yard(s, "long 17"), BrokenThree.FULL);
        Due.is("count(1)", s.count(1), 5);
        Due.is("told(0), the fifth holding", s.told(0), 9);
    }

    private static void fullAheadOfAll() {
        Due.promise(3, "FULL (ahead of all; the tape stays)");
        for (String text : new String[] {"", "x", "long", "long 3", "long 3;"}) {
            BrokenThree s = Lay.stick("long 4", 0);
            s.image();
            Lay.feed(s, "long 5");
            for (int i = 0; i < 4; i++) {
                s.yard();
                Lay.feed(s, "long 6");
            }
            s.undo();
            Due.is("count(1), after undo()", s.count(1), 1);
            for (int i = 1; i < 5; i++) {
                Due.is("yard()", Lay.yard(s, "cuts 1"), i);
            }
            Lay.feed(s, text);
            Due.is("yard() of \"" + text + "\", full", s.yard(), BrokenThree.FULL);
            Due.is("count(5)", s.count(5), text.length());
            Due.is("yard() of \"" + text + "\", again", s.yard(), BrokenThree.FULL);
            Due.is("feed(';')", s.feed(';'), text.length() + 1);
            Due.is("told(0)", s.told(0), 12);
        }
        BrokenThree kept = new BrokenThree();
        for (int i = 0; i < 4; i++) {
            Lay.yard(kept, "long 4");
        }
        Lay.feed(kept, "long 8");
        kept.image();
        Due.is("yard(), the fifth", kept.yard(), 4);
        Due.is("yard(), full", kept.yard(), BrokenThree.FULL);
        kept.undo();
        Due.is("yard(), the fifth once more, of the image's tape", kept.yard(), 4);
        Due.is("told(0)", kept.told(0), 8);
    }

    private static void newestHolds() {
        Due.promise(3, "the newest one holds");
        BrokenThree s = Lay.stick("long 9;cuts 3;hard 1 x=2;price 5 x>0", 0);
        Lay.mayIs(s, 0, "1,3,4,5,6,7,8");
        Due.is("yard()", Lay.yard(s, "hard 1 x=3"), 1);
        Due.is("told(0), without long", s.told(0), 12);
        Due.is("told(1), without cuts", s.told(1), 2);
        Lay.mayIs(s, 0, "1,2,4,5,6,7,8,9,10,11");
        s.breaks(0, 0);
        Due.is("told(3), without price", s.told(3), 0);
        Due.is("yard()", Lay.yard(s, "price 6 x=1|x=2"), 2);
        Lay.mayIs(s, 0, "1,2,3,4,5,6,7,8,9,10,11");
        s.breaks(0, 1);
        Due.is("told(3)", s.told(3), 6);
        Due.is("costs(0, 1)", s.costs(0, 1), 11);
        // of longer yards before nothing is left over
        newest("hard 1 x=1;hard 1 x=2", "hard 1 x=3", "1,2,4,5,6,7,8,9,10,11");
        newest("hard 1 !x=1", "hard 1 x=1", "2,3,4,5,6,7,8,9,10,11");
        newest("hard 1 x>1&x<9", "hard 1 x>1", "1");
        newest("hard 1 x>9|x<3", "hard 1 x>9", "1,2,3,4,5,6,7,8,9");
        newest("hard 1 x=1|x=2|x=3;long 9;cuts 1", "price 1 x=1", "1,2,3,4,5,6,7,8,9,10,11");
        // clauses read ahead of a fault are none of the next yard's
        Due.is("yard() of a fault", Lay.yard(s, "long 4;cuts 3;hard 1 x=1;price 9 x>0;x"), -10 - 37);
        Due.is("yard()", Lay.yard(s, "price 0 x=1"), 3);
        Due.is("told(0)", s.told(0), 12);
        Due.is("told(1)", s.told(1), 2);
        Lay.mayIs(s, 0, "1,2,3,4,5,6,7,8,9,10,11");
        s.breaks(0, 0);
        Due.is("told(3)", s.told(3), 0);
    }

    private static void newest(String older, String yard, String want) {
        BrokenThree s = Lay.stick(older, 0);
        Due.is("of(0, 2), by the older one", s.of(0, 2) > 12 ? 1 : 0, 0);
        Due.is("yard() of " + yard, Lay.yard(s, yard), 1);
        Lay.mayIs(s, 0, want);
    }

    private static void faultChangesNoYard() {
        Due.promise(3, "by a fault, too, the tape is empty; the one that held holds");
        for (String text : new String[] {"", "long 5;cuts 1;hard 1 x=1;price 9 x>0;", "cuts 1;long 5;price 9 x=1;hard 1 x<100"}) {
            BrokenThree s = Lay.broken(Lay.stick("long 9;cuts 3;hard 1 x=2;price 4 x=3|x=5", 0), 0, 3, 6);
            Due.is("told(3)", s.told(3), 4);
            Due.holds("yard() of a fault", Lay.yard(s, text) <= -10);
            Due.is("count(5)", s.count(5), 0);
            Due.is("count(1)", s.count(1), 1);
            Due.is("told(0)", s.told(0), 9);
            Due.is("told(1)", s.told(1), 3);
            Due.is("told(3)", s.told(3), 4);
            Due.text("pieces", Lay.pieces(s), "3,3,3");
            Lay.mayIs(s, 0, "1,4,5,7,8");
            s.breaks(0, 2);
            Due.is("told(3), the price that held", s.told(3), 8);
        }
    }

    private static void lengths() {
        Due.promise(3, "LENGTH: the last n of long (12 without), 2 if less, 17 if more");
        int[][] due = {{0, 2}, {1, 2}, {2, 2}, {3, 3}, {12, 12}, {16, 16}, {17, 17}, {18, 17}, {20, 17}, {99, 17}};
        for (int[] d : due) {
            Due.is("told(0) of long " + d[0], Lay.stick("long " + d[0]).told(0), d[1]);
            Due.is("told(0) of long 5 and long " + d[0], Lay.stick("long 5;long " + d[0]).told(0), d[1]);
            Due.is("told(0) of long " + d[0] + " and long 5", Lay.stick("long " + d[0] + ";long 5").told(0), 5);
            Due.is("piece(0) of long " + d[0], Lay.stick("long " + d[0]).piece(0), d[1]);
            Due.is("piece(1) of long " + d[0], Lay.stick("long " + d[0]).piece(1), BrokenThree.NONE);
            Due.is("notches of long " + d[0], Lay.stick("long " + d[0], 0).of(0, 2), d[1] - 1);
        }
        Due.is("told(0) of cuts 3", Lay.stick("cuts 3").told(0), 12);
        Due.is("told(0) of hard 5 x=1", Lay.stick("hard 5 x=1").told(0), 12);
        Due.is("told(0) of long 4;cuts 3;hard 9 l=9;price 8 l=8", Lay.stick("long 4;cuts 3;hard 9 l=9;price 8 l=8").told(0), 4);
    }

    private static void cuts() {
        Due.promise(3, "CUTS to make: the last n of cuts (2 without), 1 if less, 3 if more");
        int[][] due = {{0, 1}, {1, 1}, {2, 2}, {3, 3}, {4, 3}, {10, 3}, {99, 3}};
        for (int[] d : due) {
            Due.is("told(1) of cuts " + d[0], Lay.stick("cuts " + d[0]).told(1), d[1]);
            Due.is("told(1) of cuts 2 and cuts " + d[0], Lay.stick("cuts 2;cuts " + d[0]).told(1), d[1]);
            Due.is("told(1) of cuts " + d[0] + " and cuts 2", Lay.stick("cuts " + d[0] + ";cuts 2").told(1), 2);
            // so many pieces there are by a breaker
            BrokenThree s = Lay.stick("long 9;cuts " + d[0], 0);
            Due.is("mean(0, " + d[1] + ", 0) of cuts " + d[0] + " is above 0", s.mean(0, d[1], 0) > 0 ? 1 : 0, 1);
            Due.is("mean(0, 3, 0) of cuts " + d[0], s.mean(0, 3, 0) > 0 ? 1 : 0, d[1] == 3 ? 1 : 0);
        }
        Due.is("told(1) of long 3", Lay.stick("long 3").told(1), 2);
        Due.is("told(1) of hard 3 x=1", Lay.stick("hard 3 x=1;price 1 c=1").told(1), 2);
    }

    private static void onePiece() {
        Due.promise(3, "a yard makes the stick one piece of its length");
        BrokenThree s = Lay.broken(Lay.stick("long 9;price 3 x>0", 0), 0, 2, 5, 8);
        Due.text("pieces", Lay.pieces(s), "2,3,3,1");
        Due.is("told(3)", s.told(3), 9);
        Due.is("yard() of the same", Lay.yard(s, "long 9;price 3 x>0"), 1);
        Due.text("pieces", Lay.pieces(s), "9");
        Due.is("told(2)", s.told(2), 1);
        Due.is("told(3), whole", s.told(3), 0);
        Lay.broken(s, 0, 8);
        Due.is("yard() of a shorter one", Lay.yard(s, "long 2"), 2);
        Due.text("pieces", Lay.pieces(s), "2");
        Lay.broken(s, 0, 1);
        Due.is("yard() of a longer one", Lay.yard(s, "long 17"), 3);
        Due.text("pieces", Lay.pieces(s), "17");
    }
}
