import java.util.Random;

/**
 * Runs of calls at random, with seeds that are told, on the class and on the model of the document side by side.
 * Arguments: how many runs, and the first seed.
 */
public final class RandomRunsTest {
    private final Random random;
    private final BrokenThree stick = new BrokenThree();
    private final Model model = new Model();
    private final StringBuilder calls = new StringBuilder();
    private String text = "";
    private int wrong = 0;
    private int made = 0;

    private RandomRunsTest(long seed) {
        random = new Random(seed);
    }

    public static void main(String[] args) {
        int runs = args.length > 0 ? Integer.parseInt(args[0]) : 300;
        int first = args.length > 1 ? Integer.parseInt(args[1]) : 1;
        int failed = 0;
        for (int seed = first; seed < first + runs && failed < 5; seed++) {
            failed += new RandomRunsTest(seed).run(seed) ? 0 : 1;
        }
        failed += faultRuns(first, 100 * runs) ? 0 : 1;
        System.out.println("RandomRunsTest: " + runs + " runs, " + failed + " failed");
        if (failed != 0) {
            System.exit(1);
        }
    }

    /** Texts alone, far more than the runs can feed. */
    private static boolean faultRuns(long seed, int texts) {
        RandomRunsTest maker = new RandomRunsTest(-seed);
        int good = 0;
        for (int i = 0; i < texts; i++) {
            String text = maker.yardText();
            int due = Model.faultOf(text);
            int got = Lay.yard(new BrokenThree(), text);
            good += due < 0 ? 1 : 0;
            if (got != (due < 0 ? 0 : -10 - due)) {
                System.out.println("yard() of \"" + text + "\" answered " + got + ", due is fault " + due);
                return false;
            }
        }
        return good > texts / 10;
    }

    private boolean run(int seed) {
        while (made < 512 && wrong == 0) {
            step();
        }
        if (wrong > 0) {
            System.out.println("seed " + seed + ":\n" + calls);
        }
        return wrong == 0;
    }

    private int any(int from, int to) {
        return from + random.nextInt(to - from + 1);
    }

    private boolean rarely() {
        return random.nextInt(25) == 0;
    }

    /** Mostly from .. to, sometimes just beside, seldom far from it. */
    private int near(int from, int to) {
        if (rarely()) {
            return rarely() ? (random.nextBoolean() ? Integer.MIN_VALUE : Integer.MAX_VALUE) : any(from - 2, to + 2);
        }
        return any(from, to);
    }

    private int someBreaker() {
        return near(0, Math.max(0, model.breakers.size() - 1));
    }

    private void same(String call, long got, long due) {
        made++;
        calls.append(call).append(" = ").append(got);
        if (got != due) {
            calls.append(" BUT DUE ").append(due);
            wrong++;
        }
        calls.append('\n');
    }

    // ---- texts

    private String number() {
        return String.valueOf(rarely() ? any(0, 99) : any(0, 17));
    }

    private String expression(int depth) {
        int form = random.nextInt(depth > 3 ? 6 : 12);
        switch (form) {
            case 6: return "!" + factor(depth + 1);
            case 7: case 8: return "(" + expression(depth + 1) + ")";
            case 9: case 10: return expression(depth + 1) + "|" + expression(depth + 1);
            case 11: return expression(depth + 1) + "&" + expression(depth + 1);
            default: return "" + "xrlck".charAt(random.nextInt(5)) + "<=>".charAt(random.nextInt(3)) + number();
        }
    }

    private String factor(int depth) {
        return random.nextBoolean() ? "(" + expression(depth) + ")" : random.nextInt(4) == 0 ? "!" + factor(depth)
                : "x>" + number();
    }

    private String clause() {
        switch (random.nextInt(6)) {
            case 0: return "long " + any(0, 20);
            case 1: return "cuts " + any(0, 4);
            case 2: case 3: return "hard " + any(0, 5) + " " + expression(0);
            default: return "price " + number() + " " + expression(0);
        }
    }

    private String yardText() {
        StringBuilder text = new StringBuilder();
        int clauses = random.nextInt(20) == 0 ? any(9, 12) : any(1, 4);
        for (int i = 0; i < clauses; i++) {
            text.append(i > 0 ? ";" : "").append(clauses > 5 ? "cuts " + i % 5 : clause());
        }
        if (random.nextInt(4) == 0) {
            spoil(text);
        }
        if (text.length() > 100) {
            text.setLength(random.nextInt(4) == 0 ? 100 : Math.max(0, text.lastIndexOf(";", 100)));
        }
        return text.toString();
    }

    private void spoil(StringBuilder text) {
        String signs = "xrlck<=>0123456789!()&|; longcutshardprice";
        int place = random.nextInt(text.length());
        char sign = signs.charAt(random.nextInt(signs.length()));
        switch (random.nextInt(4)) {
            case 0: text.setLength(place); break;
            case 1: text.insert(place, sign); break;
            case 2: text.deleteCharAt(place); break;
            default: text.setCharAt(place, sign); break;
        }
    }

    // ---- calls

    private void step() {
        if (!text.isEmpty()) {
            for (int i = 0; i < text.length() && made < 512; i++) {
                int sign = text.charAt(i);
                same("feed(" + sign + ")", stick.feed(sign), model.feed(sign));
            }
            text = "";
            if (made < 512) {
                same("yard()", stick.yard(), model.yard());
            }
            return;
        }
        int kind = random.nextInt(100);
        if (kind < 3) {
            text = random.nextInt(3) == 0 ? "long " + any(2, 17) + ";cuts 3" : yardText();
        } else if (kind < 30) {
            breakerCall(random.nextInt(12));
        } else if (kind < 50) {
            likelyCall(random.nextInt(6));
        } else if (kind < 65) {
            boxCall(random.nextInt(8));
        } else if (kind < 85) {
            rowCall(random.nextInt(10));
        } else {
            actCall(random.nextInt(10));
        }
    }

    private void breakerCall(int which) {
        int b = someBreaker();
        int k = near(0, 6);
        int v = near(0, 9);
        switch (which) {
            case 0: same("breaker(" + k + ", " + v + ")", stick.breaker(k, v), model.breaker(k, v)); break;
            case 1: {
                int what = random.nextInt(3) == 0 ? near(0, 3) : near(10, 26);
                same("of(" + b + ", " + what + ")", stick.of(b, what), model.of(b, what));
                break;
            }
            case 2: case 3: {
                int i = near(0, 3);
                same("row(" + b + ", " + i + ", " + v + ")", stick.row(b, i, v), model.row(b, i, v));
                break;
            }
            case 4: {
                int what = near(0, 3);
                same("told(" + what + ")", stick.told(what), model.told(what));
                break;
            }
            case 5: {
                int what = near(0, 5);
                same("piece(" + what + ")", stick.piece(what), model.piece(what));
                break;
            }
            case 6: {
                int what = near(0, 4);
                same("shape(" + what + ")", stick.shape(what), model.shape(what));
                break;
            }
            case 7:
                if (random.nextInt(3) == 0) {
                    same("whole()", stick.whole(), model.whole());
                }
                break;
            case 8: {
                int sign = near(0, 127);
                if (rarely()) {
                    same("feed(" + sign + ")", stick.feed(sign), model.feed(sign));
                }
                break;
            }
            default: {
                int draw = near(0, 99);
                same("breaks(" + b + ", " + draw + ")", stick.breaks(b, draw), model.breaks(b, draw));
                break;
            }
        }
    }

    private void likelyCall(int which) {
        int b = someBreaker();
        int part = near(0, 1);
        switch (which) {
            case 0: case 1: {
                int what = near(0, 6);
                int n = random.nextInt(4) == 0 ? near(0, 99) : any(0, 12);
                same("likely(" + b + ", " + what + ", " + n + ", " + part + ")",
                        stick.likely(b, what, n, part), part == 0 || part == 1 ? model.likely(b, what, n, part) : Model.NO);
                break;
            }
            case 2: {
                int k = near(0, 3);
                same("mean(" + b + ", " + k + ", " + part + ")", stick.mean(b, k, part), model.mean(b, k, part));
                break;
            }
            case 3: same("costs(" + b + ", " + part + ")", stick.costs(b, part), model.costs(b, part)); break;
            case 4: {
                int m = near(1, 16);
                same("until(" + m + ", " + part + ")", stick.until(m, part), model.until(m, part));
                break;
            }
            default: {
                int n = near(3, 10);
                int a = near(1, Math.max(1, Math.min(n, 10)));
                int k = near(1, 6);
                same("hidden(" + n + ", " + a + ", " + k + ", " + part + ")",
                        stick.hidden(n, a, k, part), model.hidden(n, a, k, part));
                break;
            }
        }
    }

    private void boxCall(int which) {
        switch (which) {
            case 0: {
                int m = near(1, 999);
                same("stair(" + m + ")", stick.stair(m), model.stair(m));
                break;
            }
            case 1: {
                int p = near(3, 6);
                int k = near(-1, 5);
                same("sawn(" + p + ", " + k + ")", stick.sawn(p, k), model.sawn(p, k));
                break;
            }
            case 2: same("triangles()", stick.triangles(), model.triangles()); break;
            case 3: {
                int part = near(0, 1);
                same("drawn(" + part + ")", stick.drawn(part), model.drawn(part));
                break;
            }
            case 4: {
                int what = near(0, 1);
                same("none(" + what + ")", stick.none(what), model.none(what));
                break;
            }
            default: {
                int length = random.nextInt(30) == 0 ? -1 : random.nextInt(3) == 0 ? near(1, 99) : near(1, 9);
                same("box(" + length + ")", stick.box(length), model.box(length));
                break;
            }
        }
    }

    private void rowCall(int which) {
        int b = someBreaker();
        switch (which) {
            case 0: case 1: case 2: {
                int lack = model.length() - model.seen.stream().mapToInt(i -> i).sum();
                int length = random.nextInt(8) == 0 ? near(1, 17) : lack <= 0 || random.nextInt(8) == 0 ? -1
                        : random.nextInt(3) == 0 ? lack : any(1, lack);
                same("see(" + length + ")", stick.see(length), model.see(length));
                break;
            }
            case 3: same("orders(" + b + ")", stick.orders(b), model.orders(b)); break;
            case 4: {
                int part = near(0, 1);
                same("chance(" + b + ", " + part + ")", stick.chance(b, part), model.chance(b, part));
                break;
            }
            case 5: same("lost(" + b + ")", stick.lost(b), model.lost(b)); break;
            case 6: same("who()", stick.who(), model.who()); break;
            case 7: same("likeliest()", stick.likeliest(), model.likeliest()); break;
            case 8: {
                int one = random.nextInt(20) == 0 ? -1 : near(1, 20);
                int two = near(1, 20);
                int three = near(1, 20);
                boolean close = Math.max(one, Math.max(two, three)) * 2L < (long) one + two + three ^ rarely();
                same("book(" + one + ", " + two + ", " + three + ", " + close + ")",
                        stick.book(one, two, three, close), model.book(one, two, three, close));
                break;
            }
            default: same("looked()", stick.looked(), model.looked()); break;
        }
    }

    private void actCall(int which) {
        int b = someBreaker();
        switch (which) {
            case 0: case 1: case 2: {
                int act = near(0, 2);
                int x = random.nextBoolean() ? random.nextInt() : any(-9, 9);
                same("act(" + b + ", " + act + ", " + x + ")", stick.act(b, act, x), model.act(b, act, x));
                break;
            }
            case 3: case 4: {
                int i = near(0, 6);
                same("trace(" + i + ")", stick.trace(i), model.trace(i));
                break;
            }
            case 5: {
                int k = near(0, 6);
                same("as(" + b + ", " + k + ")", stick.as(b, k), model.as(b, k));
                break;
            }
            case 6:
                if (random.nextBoolean()) {
                    same("image()", stick.image(), model.image());
                }
                break;
            case 7:
                if (random.nextInt(3) == 0) {
                    same("undo()", stick.undo(), model.undo());
                }
                break;
            default: {
                int what = near(0, 6);
                same("count(" + what + ")", stick.count(what), model.count(what));
                break;
            }
        }
    }
}
