import java.math.BigInteger;
import java.util.ArrayList;
import java.util.Arrays;
import java.util.Collections;
import java.util.HashMap;
import java.util.List;
import java.util.Map;
import java.util.TreeMap;

/**
 * The document once more, as slow and as literal as can be, for the random runs to compare with: pieces as lists, yards
 * read sign by sign with a stack, all ways of breaking walked through one by one, acts as real methods with super.
 */
final class Model {
    static final int NONE = -1, BAD = -2, STATE = -3, FULL = -4;
    static final long NO = Long.MIN_VALUE;

    // ---- fractions

    static final class Part {
        final BigInteger above;
        final BigInteger below;

        Part(BigInteger a, BigInteger b) {
            BigInteger g = a.gcd(b);
            above = a.divide(g);
            below = b.divide(g);
        }

        static Part of(long a, long b) {
            return new Part(BigInteger.valueOf(a), BigInteger.valueOf(b));
        }

        Part plus(Part o) {
            return new Part(above.multiply(o.below).add(o.above.multiply(below)), below.multiply(o.below));
        }

        Part times(Part o) {
            return new Part(above.multiply(o.above), below.multiply(o.below));
        }

        boolean isMoreThan(Part o) {
            return above.multiply(o.below).compareTo(o.above.multiply(below)) > 0;
        }

        long part(int part) {
            return part == 0 ? above.longValueExact() : part == 1 ? below.longValueExact() : NO;
        }
    }

    private static final Part ZERO = Part.of(0, 1), ONE = Part.of(1, 1);

    // ---- E

    interface Test {
        boolean holds(int x, int r, int l, int c, int k);
    }

    /** A yard's clause: word, number, and E from where to where in the text. */
    static final class Clause {
        String word;
        int n;
        Test test;
    }

    // ---- acts, with the language's own way of finding bodies

    static List<Integer> ran = new ArrayList<>();

    static class Breaker {
        int i;
        int v;
        int kind;
        int[] row = new int[4];

        int bends(int x) {
            ran.add(1);
            return x + i;
        }

        int breaks(int x) {
            ran.add(2);
            return bends(x) - v;
        }

        int tells(int x) {
            ran.add(3);
            return breaks(x) * 2;
        }

        final Breaker copy() {
            Breaker b = make(kind, v, i);
            b.row = row.clone();
            return b;
        }
    }

    static class Longest extends Breaker {
        @Override int bends(int x) {
            ran.add(11);
            return super.bends(x * 3);
        }
    }

    static class Shortest extends Breaker {
        @Override int breaks(int x) {
            ran.add(21);
            return -super.breaks(x);
        }
    }

    static class Left extends Breaker {
        @Override int tells(int x) {
            ran.add(31);
            return super.tells(x) ^ 7;
        }
    }

    static class Halving extends Longest {
        @Override int tells(int x) {
            ran.add(41);
            return super.tells(x - 1) + bends(2);
        }
    }

    static class Thin extends Shortest {
        @Override int bends(int x) {
            ran.add(51);
            return super.bends(x) ^ i;
        }
    }

    static class Told extends Left {
        @Override int breaks(int x) {
            ran.add(61);
            return super.breaks(x) + v;
        }
    }

    static Breaker make(int kind, int v, int i) {
        Breaker b = kind == 0 ? new Breaker() : kind == 1 ? new Longest() : kind == 2 ? new Shortest()
                : kind == 3 ? new Left() : kind == 4 ? new Halving() : kind == 5 ? new Thin() : new Told();
        b.kind = kind;
        b.v = v;
        b.i = i;
        return b;
    }

    // ---- what there is

    List<Breaker> breakers = new ArrayList<>();
    List<Integer> pieces = new ArrayList<>(List.of(12));
    List<Clause> clauses = new ArrayList<>();
    /** The text of the yard that holds. */
    String law = "";
    int yards = 0;
    int spent = 0;
    StringBuilder tape = new StringBuilder();
    List<Integer> box = new ArrayList<>();
    List<Integer> seen = new ArrayList<>();
    List<int[]> book = new ArrayList<>();
    Model kept = null;
    int keptTrace = 0;
    List<Integer> trace = new ArrayList<>();

    private void take(Model o) {
        breakers = new ArrayList<>();
        for (Breaker b : o.breakers) {
            breakers.add(b.copy());
        }
        pieces = new ArrayList<>(o.pieces);
        clauses = new ArrayList<>(o.clauses);
        law = o.law;
        yards = o.yards;
        spent = o.spent;
        tape = new StringBuilder(o.tape);
        box = new ArrayList<>(o.box);
        seen = new ArrayList<>(o.seen);
        book = new ArrayList<>(o.book);
    }

    // ---- yards

    int feed(int sign) {
        if (sign < 0 || sign > 127) return BAD;
        if (tape.length() == 100) return FULL;
        tape.append((char) sign);
        return tape.length();
    }

    /**
     * What may stand next is told by a state and a stack of ! and (: w at a word's start, otherwise the rest of the
     * word; n a number's start; d behind its first digit; and so on.
     */
    static int faultOf(String text) {
        String wanted = "";
        char state = 'w';
        boolean rule = false;
        int clause = 1;
        int numberFor = 0;
        StringBuilder open = new StringBuilder();
        for (int i = 0; i < text.length(); i++) {
            char s = text.charAt(i);
            if (!wanted.isEmpty()) {
                if (s != wanted.charAt(0)) return i;
                wanted = wanted.substring(1);
                continue;
            }
            switch (state) {
                case 'w':
                    rule = s == 'h' || s == 'p';
                    wanted = s == 'l' ? "ong " : s == 'c' ? "uts " : s == 'h' ? "ard " : s == 'p' ? "rice " : null;
                    if (wanted == null) return i;
                    state = 'n';
                    numberFor = 0;
                    break;
                case 'n':
                    if (s < '0' || s > '9') return i;
                    state = s == '0' ? 'e' : 'd';
                    break;
                case 'd':
                    if (s >= '0' && s <= '9') {
                        state = 'e';
                        break;
                    }
                    // falls through: the number has ended
                case 'e':
                    if (numberFor == 0 && rule) {
                        if (s != ' ') return i;
                        state = 'f';
                        break;
                    }
                    if (numberFor == 1) {
                        while (open.length() > 0 && open.charAt(open.length() - 1) == '!') open.setLength(open.length() - 1);
                        if (s == '&' || s == '|') {
                            state = 'f';
                            break;
                        }
                        if (s == ')') {
                            if (open.length() == 0) return i;
                            open.setLength(open.length() - 1);
                            state = 'e';
                            break;
                        }
                        if (open.length() > 0) return i;
                    }
                    if (s != ';' || clause == 10) return i;
                    clause++;
                    state = 'w';
                    break;
                case 'f':
                    if (s == '!' || s == '(') {
                        if (open.length() == 5) return i;
                        open.append(s);
                        break;
                    }
                    if ("xrlck".indexOf(s) < 0) return i;
                    state = 'o';
                    break;
                case 'o':
                    if ("<=>".indexOf(s) < 0) return i;
                    numberFor = 1;
                    state = 'n';
                    break;
                default:
                    throw new IllegalStateException();
            }
        }
        if (!wanted.isEmpty() || (state != 'd' && state != 'e')) return text.length();
        if (numberFor == 0 && rule) return text.length();
        return open.indexOf("(") >= 0 ? text.length() : -1;
    }

    /** E of a text that has no fault: split at the | and then the & that stand in no bracket. */
    static Test testOf(String e) {
        for (char sign : new char[] {'|', '&'}) {
            int depth = 0;
            for (int i = 0; i < e.length(); i++) {
                char s = e.charAt(i);
                depth += s == '(' ? 1 : s == ')' ? -1 : 0;
                if (depth == 0 && s == sign) {
                    Test one = testOf(e.substring(0, i));
                    Test two = testOf(e.substring(i + 1));
                    return sign == '|'
                            ? (x, r, l, c, k) -> one.holds(x, r, l, c, k) || two.holds(x, r, l, c, k)
                            : (x, r, l, c, k) -> one.holds(x, r, l, c, k) && two.holds(x, r, l, c, k);
                }
            }
        }
        if (e.charAt(0) == '!') {
            Test one = testOf(e.substring(1));
            return (x, r, l, c, k) -> !one.holds(x, r, l, c, k);
        }
        if (e.charAt(0) == '(') return testOf(e.substring(1, e.length() - 1));
        char letter = e.charAt(0);
        char sign = e.charAt(1);
        int n = Integer.parseInt(e.substring(2));
        return (x, r, l, c, k) -> {
            int value = letter == 'x' ? x : letter == 'r' ? r : letter == 'l' ? l : letter == 'c' ? c : k;
            return sign == '<' ? value < n : sign == '=' ? value == n : value > n;
        };
    }

    int yard() {
        if (yards == 5) return FULL;
        String text = tape.toString();
        tape.setLength(0);
        int fault = faultOf(text);
        if (fault >= 0) return -10 - fault;
        law = text;
        clauses = new ArrayList<>();
        for (String one : text.split(";")) {
            String[] parts = one.split(" ");
            Clause c = new Clause();
            c.word = parts[0];
            c.n = Integer.parseInt(parts[1]);
            c.test = parts.length > 2 ? testOf(parts[2]) : null;
            clauses.add(c);
        }
        pieces = new ArrayList<>(List.of(length()));
        spent = 0;
        return yards++;
    }

    private int last(String word, int without, int least, int most) {
        int n = without;
        for (Clause c : clauses) {
            if (c.word.equals(word)) n = c.n;
        }
        return Math.max(least, Math.min(most, n));
    }

    int length() {
        return last("long", 12, 2, 17);
    }

    int cuts() {
        return last("cuts", 2, 1, 3);
    }

    private int sum(String word, List<Integer> stick, int place, int kind) {
        int from = 0;
        int sum = 0;
        for (int l : stick) {
            if (place > from && place < from + l) {
                for (Clause c : clauses) {
                    if (c.word.equals(word)
                            && c.test.holds(place, Math.min(place - from, from + l - place), l, stick.size() - 1, kind)) {
                        sum += c.n;
                    }
                }
            }
            from += l;
        }
        return sum;
    }

    /** The free notches of each piece. */
    private List<List<Integer>> free(List<Integer> stick, int kind) {
        List<List<Integer>> all = new ArrayList<>();
        int from = 0;
        for (int l : stick) {
            List<Integer> free = new ArrayList<>();
            for (int x = from + 1; x < from + l; x++) {
                if (sum("hard", stick, x, kind) <= 0) free.add(x);
            }
            all.add(free);
            from += l;
        }
        return all;
    }

    List<Integer> may(Breaker b, List<Integer> stick) {
        List<List<Integer>> free = free(stick, b.kind);
        List<Integer> open = new ArrayList<>();
        List<Integer> union = new ArrayList<>();
        for (int i = 0; i < stick.size(); i++) {
            if (!free.get(i).isEmpty()) open.add(i);
            union.addAll(free.get(i));
        }
        if (open.isEmpty() || b.kind == 0) return union;
        int most = open.stream().mapToInt(stick::get).max().getAsInt();
        int longest = open.stream().filter(i -> stick.get(i) == most).findFirst().get();
        if (b.kind == 1) return free.get(longest);
        if (b.kind == 3) return free.get(open.get(0));
        if (b.kind == 6) return free.get(open.get(b.row[(stick.size() - 1) % 4] % open.size()));
        if (b.kind == 4) {
            int from = stick.subList(0, longest).stream().mapToInt(i -> i).sum();
            TreeMap<Integer, List<Integer>> byFar = new TreeMap<>();
            for (int x : free.get(longest)) {
                byFar.computeIfAbsent(Math.min(x - from, from + most - x), far -> new ArrayList<>()).add(x);
            }
            return byFar.lastEntry().getValue();
        }
        List<Integer> thick = new ArrayList<>(open);
        if (b.kind == 5) thick.removeIf(i -> stick.get(i) <= b.v);
        if (thick.isEmpty()) return new ArrayList<>();
        int least = thick.stream().mapToInt(stick::get).min().getAsInt();
        return free.get(thick.stream().filter(i -> stick.get(i) == least).findFirst().get());
    }

    private static List<Integer> broken(List<Integer> stick, int place) {
        List<Integer> now = new ArrayList<>();
        int from = 0;
        for (int l : stick) {
            if (place > from && place < from + l) {
                now.add(place - from);
                now.add(from + l - place);
            } else {
                now.add(l);
            }
            from += l;
        }
        return now;
    }

    private boolean is(int breaker) {
        return breaker >= 0 && breaker < breakers.size();
    }

    int breaker(int kind, int v) {
        if (kind < 0 || kind > 6) return NONE;
        if (v < 0 || v > 9) return BAD;
        if (breakers.size() == 6) return FULL;
        breakers.add(make(kind, v, breakers.size()));
        return breakers.size() - 1;
    }

    int of(int breaker, int what) {
        if (!is(breaker)) return NONE;
        Breaker b = breakers.get(breaker);
        List<Integer> may = may(b, pieces);
        if (what == 0) return b.kind;
        if (what == 1) return b.v;
        if (what == 2) return may.size();
        return what >= 10 && what - 10 < may.size() ? may.get(what - 10) : NONE;
    }

    int row(int breaker, int k, int n) {
        if (!is(breaker) || k < 0 || k > 3) return NONE;
        if (n < 0 || n > 9) return BAD;
        Breaker b = breakers.get(breaker);
        if (b.kind != 6) return STATE;
        int was = b.row[k];
        b.row[k] = n;
        return was;
    }

    int told(int what) {
        return what == 0 ? length() : what == 1 ? cuts() : what == 2 ? pieces.size() : what == 3 ? spent : NONE;
    }

    int piece(int k) {
        return k >= 0 && k < pieces.size() ? pieces.get(k) : NONE;
    }

    int breaks(int breaker, int draw) {
        if (!is(breaker)) return NONE;
        if (draw < 0 || draw > 99) return BAD;
        List<Integer> may = may(breakers.get(breaker), pieces);
        if (may.isEmpty()) return STATE;
        int place = may.get(draw % may.size());
        spent += sum("price", pieces, place, breakers.get(breaker).kind);
        pieces = broken(pieces, place);
        return place;
    }

    int whole() {
        int were = pieces.size();
        pieces = new ArrayList<>(List.of(length()));
        spent = 0;
        return were;
    }

    private static boolean close(List<Integer> lengths) {
        int longest = Collections.max(lengths);
        return lengths.size() >= 3 && longest < lengths.stream().mapToInt(i -> i).sum() - longest;
    }

    /** Above 0: blunt (if they close); 0: square; below 0: neither. */
    private static int corner(List<Integer> lengths) {
        List<Integer> s = new ArrayList<>(lengths);
        Collections.sort(s);
        return s.get(2) * s.get(2) - s.get(0) * s.get(0) - s.get(1) * s.get(1);
    }

    private static boolean such(List<Integer> stick, int what, int n) {
        switch (what) {
            case 0: return close(stick);
            case 1: return stick.size() == 3 && corner(stick) == 0;
            case 2: return stick.size() == 3 && close(stick) && corner(stick) > 0;
            case 3: return Collections.max(stick) >= n;
            case 4: return Collections.min(stick) >= n;
            case 5: return stick.stream().distinct().count() == stick.size();
            default: return stick.contains(n);
        }
    }

    int shape(int what) {
        if (what < 0 || what > 4) return NONE;
        if (what == 3) return Collections.max(pieces);
        if (what == 4) return Collections.min(pieces);
        return such(pieces, what, 0) ? 1 : 0;
    }

    // ---- all ways

    /** One end of breaking: its pieces, how likely all ways there are, how many ways, and their cost by likelihood. */
    static final class End {
        Part likely = ZERO;
        Part costs = ZERO;
        int ways = 0;
    }

    private Map<String, Map<List<Integer>, End>> known = new HashMap<>();

    private Map<List<Integer>, End> ends(int breaker) {
        Breaker b = breakers.get(breaker);
        String key = law + " " + b.kind + " " + b.v + Arrays.toString(b.row);
        Map<List<Integer>, End> ends = known.get(key);
        if (ends == null) {
            ends = new HashMap<>();
            walk(b, List.of(length()), cuts(), ONE, 0, ends);
            known.put(key, ends);
        }
        return ends;
    }

    private void walk(Breaker b, List<Integer> stick, int left, Part likely, int cost, Map<List<Integer>, End> ends) {
        List<Integer> may = left > 0 ? may(b, stick) : List.of();
        if (may.isEmpty()) {
            End end = ends.computeIfAbsent(stick, s -> new End());
            end.likely = end.likely.plus(likely);
            end.costs = end.costs.plus(likely.times(Part.of(cost, 1)));
            end.ways++;
            return;
        }
        Part each = likely.times(Part.of(1, may.size()));
        for (int x : may) {
            walk(b, broken(stick, x), left - 1, each, cost + sum("price", stick, x, b.kind), ends);
        }
    }

    long likely(int breaker, int what, int n, int part) {
        if (!is(breaker) || what < 0 || what > 6 || n < 0 || n > 99) return NO;
        Part sum = ZERO;
        for (Map.Entry<List<Integer>, End> e : ends(breaker).entrySet()) {
            if (such(e.getKey(), what, n)) sum = sum.plus(e.getValue().likely);
        }
        return sum.part(part);
    }

    long mean(int breaker, int k, int part) {
        if (!is(breaker) || k < 0 || k > 3) return NO;
        Part sum = ZERO;
        for (Map.Entry<List<Integer>, End> e : ends(breaker).entrySet()) {
            List<Integer> s = new ArrayList<>(e.getKey());
            Collections.sort(s);
            if (k < s.size()) sum = sum.plus(e.getValue().likely.times(Part.of(s.get(k), 1)));
        }
        return sum.part(part);
    }

    long costs(int breaker, int part) {
        if (!is(breaker)) return NO;
        Part sum = ZERO;
        for (End end : ends(breaker).values()) {
            sum = sum.plus(end.costs);
        }
        return sum.part(part);
    }

    long until(int m, int part) {
        if (m < 1 || m > 16) return NO;
        Part[] mean = new Part[18];
        for (int n = 1; n <= 17; n++) {
            mean[n] = n <= m ? ONE : ZERO;
            for (int x = 1; x < n && n > m; x++) {
                mean[n] = mean[n].plus(mean[x].plus(mean[n - x]).times(Part.of(1, n - 1)));
            }
        }
        return mean[length()].part(part);
    }

    private static final Map<String, Part> HIDDEN = new HashMap<>();

    long hidden(int n, int a, int k, int part) {
        if (n < 3 || n > 10 || a < 1 || a > n || k < 1 || k > 6) return NO;
        return HIDDEN.computeIfAbsent(n + " " + a + " " + k, key -> {
            long all = (long) Math.pow(n, k);
            long covering = 0;
            for (long way = 0; way < all; way++) {
                boolean[] covered = new boolean[n];
                long rest = way;
                for (int arc = 0; arc < k; arc++) {
                    for (int i = 0; i < a; i++) covered[(int) ((rest % n + i) % n)] = true;
                    rest /= n;
                }
                boolean full = true;
                for (boolean c : covered) full &= c;
                covering += full ? 1 : 0;
            }
            return Part.of(covering, all);
        }).part(part);
    }

    // ---- boxes

    int box(int length) {
        return hand(box, length, 99, 10);
    }

    int see(int length) {
        return hand(seen, length, 17, 4);
    }

    private static int hand(List<Integer> list, int length, int longest, int most) {
        if (length == -1) {
            list.clear();
            return 0;
        }
        if (length < 1 || length > longest) return BAD;
        if (list.size() == most) return FULL;
        list.add(length);
        return list.size();
    }

    private static int triangles(List<Integer> sticks) {
        int n = 0;
        for (int i = 0; i < sticks.size(); i++)
            for (int j = 0; j < i; j++)
                for (int k = 0; k < j; k++)
                    if (close(List.of(sticks.get(i), sticks.get(j), sticks.get(k)))) n++;
        return n;
    }

    int triangles() {
        return triangles(box);
    }

    long drawn(int part) {
        int n = box.size();
        return n < 3 ? NO : Part.of(triangles(), n * (n - 1) * (n - 2) / 6).part(part);
    }

    int none(int what) {
        int best = 0;
        for (int set = 0; set < 1 << box.size(); set++) {
            List<Integer> sticks = new ArrayList<>();
            for (int i = 0; i < box.size(); i++) {
                if ((set >> i & 1) == 1) sticks.add(box.get(i));
            }
            if (sticks.size() > Integer.bitCount(best) && triangles(sticks) == 0) best = set;
        }
        return what == 0 ? Integer.bitCount(best) : what == 1 ? best : NONE;
    }

    private static int[] stairs = null;

    /** By the longest row that ends with the lengths b < c, no three closing. */
    static int stairOf(int m) {
        if (stairs == null) {
            stairs = new int[1000];
            stairs[1] = 1;
            int[][] upTo = new int[1000][1000];
            for (int c = 2; c < 1000; c++) {
                stairs[c] = stairs[c - 1];
                for (int b = 1; b < c; b++) {
                    int row = 2;
                    if (c - b >= 1) row = Math.max(row, 1 + upTo[b][Math.min(c - b, b - 1)]);
                    upTo[c][b] = Math.max(upTo[c][b - 1], row);
                    stairs[c] = Math.max(stairs[c], row);
                }
            }
        }
        return stairs[m];
    }

    int stair(int m) {
        return m < 1 || m > 999 ? BAD : stairOf(m);
    }

    private static final Map<String, List<Integer>> SAWN = new HashMap<>();

    private static void saw(int left, int p, List<Integer> done, List<List<Integer>> all) {
        if (p == 1) {
            List<Integer> one = new ArrayList<>(done);
            one.add(left);
            one.sort(Collections.reverseOrder());
            all.add(one);
            return;
        }
        for (int l = 1; l <= left - p + 1; l++) {
            done.add(l);
            saw(left - l, p - 1, done, all);
            done.remove(done.size() - 1);
        }
    }

    int sawn(int p, int k) {
        if (k < -1 || k > 5) return NONE;
        if (p < 3 || p > 6) return BAD;
        if (length() < p || k >= p) return -5;
        List<Integer> best = SAWN.computeIfAbsent(length() + " " + p, key -> {
            List<List<Integer>> all = new ArrayList<>();
            saw(length(), p, new ArrayList<>(), all);
            all.sort((a, b) -> {
                int more = triangles(b) - triangles(a);
                for (int i = 0; i < a.size() && more == 0; i++) more = a.get(i) - b.get(i);
                return more;
            });
            return all.get(0);
        });
        return k == -1 ? triangles(best) : best.get(k);
    }

    // ---- rows told back

    private End end(int breaker, List<Integer> row) {
        return ends(breaker).getOrDefault(row, new End());
    }

    int orders(int breaker) {
        return is(breaker) ? end(breaker, seen).ways : NONE;
    }

    long chance(int breaker, int part) {
        return is(breaker) ? end(breaker, seen).likely.part(part) : NO;
    }

    int lost(int breaker) {
        if (!is(breaker)) return NONE;
        int lack = length() - seen.stream().mapToInt(i -> i).sum();
        int bits = 0;
        for (int place = 0; place <= seen.size() && lack > 0 && seen.size() < 4; place++) {
            List<Integer> row = new ArrayList<>(seen);
            row.add(place, lack);
            bits |= end(breaker, row).ways > 0 ? 1 << place : 0;
        }
        return bits;
    }

    int who() {
        int bits = 0;
        for (int b = 0; b < breakers.size(); b++) bits |= end(b, seen).ways > 0 ? 1 << b : 0;
        return bits;
    }

    int likeliest() {
        int best = -5;
        Part most = ZERO;
        for (int b = 0; b < breakers.size(); b++) {
            if (end(b, seen).likely.isMoreThan(most)) {
                most = end(b, seen).likely;
                best = b;
            }
        }
        return best;
    }

    int book(int one, int two, int three, boolean close) {
        if (one == -1) {
            book.clear();
            return 0;
        }
        for (int l : new int[] {one, two, three}) if (l < 1 || l > 99) return BAD;
        if (book.size() == 8) return FULL;
        book.add(new int[] {one, two, three, close ? 1 : 0});
        return book.size();
    }

    int looked() {
        for (int i = 0; i < book.size(); i++) {
            int[] b = book.get(i);
            if (close(List.of(b[0], b[1], b[2])) != (b[3] == 1)) return i;
        }
        return -5;
    }

    // ---- acts

    int act(int breaker, int act, int x) {
        ran.clear();
        int answer = 0;
        if (is(breaker) && act >= 0 && act <= 2) {
            Breaker b = breakers.get(breaker);
            answer = act == 0 ? b.bends(x) : act == 1 ? b.breaks(x) : b.tells(x);
        }
        trace = new ArrayList<>(ran);
        return answer;
    }

    int trace(int i) {
        return i >= 0 && i < Math.min(20, trace.size()) ? trace.get(i) : NONE;
    }

    int as(int breaker, int k) {
        if (!is(breaker) || k < 0 || k > 6) return NONE;
        Class<?>[] kinds = {Breaker.class, Longest.class, Shortest.class, Left.class, Halving.class, Thin.class, Told.class};
        return kinds[k].isInstance(breakers.get(breaker)) ? breakers.get(breaker).v : -6;
    }

    int image() {
        kept = new Model();
        kept.take(this);
        return breakers.size();
    }

    int undo() {
        if (kept == null) return STATE;
        take(kept);
        return breakers.size();
    }

    int count(int what) {
        int[] counts = {breakers.size(), yards, box.size(), seen.size(), book.size(), tape.length(), trace.size()};
        return what >= 0 && what < 7 ? counts[what] : NONE;
    }
}
