/** Counts the answers that are not due, and tells them. */
final class Due {
    private static final long MOST_MILLISECONDS = 300_000;
    private static int wrong = 0;
    private static int asked = 0;
    private static volatile String where = "";

    static {
        // a call that does not end is a fault, too
        Thread watch = new Thread(Due::haltLater);
        watch.setDaemon(true);
        watch.start();
    }

    private Due() {
    }

    private static void haltLater() {
        try {
            Thread.sleep(MOST_MILLISECONDS);
        } catch (InterruptedException e) {
            return;
        }
        System.out.println(where + ": no end");
        Runtime.getRuntime().halt(1);
    }

    static void promise(int number, String name) {
        where = "promise " + number + " (" + name + ")";
    }

    static void is(String call, long got, long want) {
        asked++;
        if (got != want) {
            wrong++;
            System.out.println(where + ": " + call + " answered " + got + ", due is " + want);
        }
    }

    static void text(String call, String got, String want) {
        asked++;
        if (!got.equals(want)) {
            wrong++;
            System.out.println(where + ": " + call + " answered " + got + ", due is " + want);
        }
    }

    /** Both parts of a fraction, told as "above/below". */
    static void fraction(String call, long above, long below, String want) {
        text(call, above + "/" + below, want);
    }

    static void holds(String what, boolean holds) {
        is(what, holds ? 1 : 0, 1);
    }

    static void end(String test) {
        System.out.println(test + ": " + asked + " asked, " + wrong + " wrong");
        if (wrong != 0) {
            System.exit(1);
        }
    }
}
