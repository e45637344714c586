/** Brings an object to where a test wants it, and reads what takes several calls. */
final class Lay {
    private Lay() {
    }

    /** A new object with a yard and breakers of these kinds, v being 0. */
    static BrokenThree stick(String yard, int... kinds) {
        BrokenThree stick = new BrokenThree();
        Due.is("yard() of " + yard, yard(stick, yard), 0);
        for (int kind : kinds) {
            stick.breaker(kind, 0);
        }
        return stick;
    }

    /** A text onto the tape, and then yard(). */
    static int yard(BrokenThree stick, String text) {
        feed(stick, text);
        return stick.yard();
    }

    static void feed(BrokenThree stick, String text) {
        for (int i = 0; i < text.length(); i++) {
            stick.feed(text.charAt(i));
        }
    }

    /** Breaks by a breaker at just these places. */
    static BrokenThree broken(BrokenThree stick, int breaker, int... places) {
        for (int place : places) {
            int k = 0;
            while (k < 17 && stick.of(breaker, 10 + k) != place) {
                k++;
            }
            Due.is("breaks(" + breaker + ", " + k + ")", stick.breaks(breaker, k), place);
        }
        return stick;
    }

    /** The notches at which a breaker may break, as "1,2,3". */
    static String may(BrokenThree stick, int breaker) {
        StringBuilder all = new StringBuilder();
        int many = stick.of(breaker, 2);
        for (int k = 0; k < many && k < 17; k++) {
            all.append(k > 0 ? "," : "").append(stick.of(breaker, 10 + k));
        }
        return all.toString();
    }

    static void mayIs(BrokenThree stick, int breaker, String want) {
        Due.text("notches of breaker " + breaker, may(stick, breaker), want);
    }

    /** The pieces from the left, as "3,4,5". */
    static String pieces(BrokenThree stick) {
        StringBuilder all = new StringBuilder();
        for (int k = 0; k < 20 && stick.piece(k) != BrokenThree.NONE; k++) {
            all.append(k > 0 ? "," : "").append(stick.piece(k));
        }
        return all.toString();
    }

    /** A new object with these sticks in its box. */
    static BrokenThree box(int... lengths) {
        BrokenThree stick = new BrokenThree();
        for (int length : lengths) {
            stick.box(length);
        }
        return stick;
    }

    /** The row told by hand becomes these lengths. */
    static BrokenThree seen(BrokenThree stick, int... lengths) {
        stick.see(-1);
        for (int length : lengths) {
            stick.see(length);
        }
        return stick;
    }
}
