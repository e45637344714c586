/** Counts the answers that are not due, and tells them. */
final class Due {
    private static int wrong = 0;
    private static int asked = 0;
    private static String where = "";

    private Due() {
    }

    static void promise(int number, String name) {
        where = "promise " + number + " (" + name + ")";
    }

    static void is(String call, long got, long want) {
        asked++;
        if (got != want) {
            wrong++;
            System.out.println(where + ": " + call + " answered " + got + ", due is " + want);
        }
    }

    /** Both parts of a fraction, told as "above/below". */
    static void fraction(String call, long above, long below, String want) {
        asked++;
        String got = above + "/" + below;
        if (!got.equals(want)) {
            wrong++;
            System.out.println(where + ": " + call + " answered " + got + ", due is " + want);
        }
    }

    static void holds(String what, boolean holds) {
        is(what, holds ? 1 : 0, 1);
    }

    static void end(String test) {
        System.out.println(test + ": " + asked + " asked, " + wrong + " wrong");
        if (wrong != 0) {
            System.exit(1);
        }
    }

    /** A new object with a yard and breakers of these kinds, v being 0. */
    static BrokenThree stick(String yard, int... kinds) {
        BrokenThree stick = new BrokenThree();
        is("yard() of " + yard, yard(stick, yard), 0);
        for (int kind : kinds) {
            stick.breaker(kind, 0);
        }
        return stick;
    }

    /** A text onto the tape, and then yard(). */
    static int yard(BrokenThree stick, String text) {
        feed(stick, text);
        return stick.yard();
    }

    static void feed(BrokenThree stick, String text) {
        for (int i = 0; i < text.length(); i++) {
            stick.feed(text.charAt(i));
        }
    }
}
