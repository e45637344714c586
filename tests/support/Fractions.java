/** Asks for both parts of a fraction, due being told as "above/below". */
final class Fractions {
    private Fractions() {
    }

    static void likelyIs(BrokenThree s, int breaker, int what, int n, String want) {
        Due.fraction("likely(" + breaker + ", " + what + ", " + n + ", ..)",
                s.likely(breaker, what, n, 0), s.likely(breaker, what, n, 1), want);
    }

    static void meanIs(BrokenThree s, int breaker, int k, String want) {
        Due.fraction("mean(" + breaker + ", " + k + ", ..)", s.mean(breaker, k, 0), s.mean(breaker, k, 1), want);
    }

    static void costsAre(BrokenThree s, int breaker, String want) {
        Due.fraction("costs(" + breaker + ", ..)", s.costs(breaker, 0), s.costs(breaker, 1), want);
    }

    static void untilIs(BrokenThree s, int m, String want) {
        Due.fraction("until(" + m + ", ..)", s.until(m, 0), s.until(m, 1), want);
    }

    static void hiddenIs(int n, int a, int k, String want) {
        BrokenThree s = new BrokenThree();
        Due.fraction("hidden(" + n + ", " + a + ", " + k + ", ..)",
                s.hidden(n, a, k, 0), s.hidden(n, a, k, 1), want);
    }

    static void drawnIs(BrokenThree s, String want) {
        Due.fraction("drawn(..)", s.drawn(0), s.drawn(1), want);
    }

    static void chanceIs(BrokenThree s, int breaker, String want) {
        Due.fraction("chance(" + breaker + ", ..)", s.chance(breaker, 0), s.chance(breaker, 1), want);
    }
}
