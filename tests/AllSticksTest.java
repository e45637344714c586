import java.util.ArrayList;
import java.util.List;

/** Every length of the stick with every number of cuts, by every kind, beside the model of the document. */
public final class AllSticksTest {
    /** No hard notches; and some that shut pieces to some kinds or late. */
    private static final String[] LAWS = {"", ";hard 1 r=1&c>0;price 2 x<9;price 3 k>2|l>5", ";hard 2 l<5|x=6&k<3;price 40 c=1"};

    public static void main(String[] args) {
        for (int length = 2; length <= 17; length++) {
            lengthAlone(length);
            for (int cuts = 1; cuts <= 3; cuts++) {
                for (String law : LAWS) {
                    likelyBy("long " + length + ";cuts " + cuts + law, length);
                    rowsBy("long " + length + ";cuts " + cuts + law, length);
                }
            }
        }
        Due.end("AllSticksTest");
    }

    /** Both with the same yard and the same six breakers. */
    private static Model laid(BrokenThree s, String yard, int[] kinds, int v) {
        Model m = new Model();
        for (int i = 0; i < yard.length(); i++) {
            s.feed(yard.charAt(i));
            m.feed(yard.charAt(i));
        }
        Due.is("yard() of " + yard, s.yard(), m.yard());
        for (int i = 0; i < kinds.length; i++) {
            Due.is("breaker(..)", s.breaker(kinds[i], v), m.breaker(kinds[i], v));
            for (int k = 0; k < 4; k++) {
                Due.is("row(..)", s.row(i, k, (v + i + k * k) % 10), m.row(i, k, (v + i + k * k) % 10));
            }
        }
        return m;
    }

    private static void same(String call, long got, long due) {
        if (got != due) {
            Due.is(call, got, due);
        }
    }

    private static void likelyBy(String yard, int length) {
        int[][] kinds = {{0, 1, 2, 3, 4, 5}, {6, 5, 6, 5}};
        for (int half = 0; half < kinds.length; half++) {
            BrokenThree s = new BrokenThree();
            Model m = laid(s, yard, kinds[half], 1 + half * length / 3 % 9);
            for (int b = 0; b < kinds[half].length; b++) {
                Due.promise(12, "likely, " + yard + ", kind " + kinds[half][b]);
                for (int what = 0; what <= 6; what++) {
                    for (int n = 0; n <= (what >= 3 && what != 5 ? length : 0); n += 1 + length / 7) {
                        same("likely(" + b + ", " + what + ", " + n + ", 0)", s.likely(b, what, n, 0), m.likely(b, what, n, 0));
                        same("likely(" + b + ", " + what + ", " + n + ", 1)", s.likely(b, what, n, 1), m.likely(b, what, n, 1));
                    }
                }
                Due.promise(13, "mean and costs, " + yard + ", kind " + kinds[half][b]);
                for (int k = 0; k <= 3; k++) {
                    same("mean(" + b + ", " + k + ", 0)", s.mean(b, k, 0), m.mean(b, k, 0));
                    same("mean(" + b + ", " + k + ", 1)", s.mean(b, k, 1), m.mean(b, k, 1));
                }
                same("costs(" + b + ", 0)", s.costs(b, 0), m.costs(b, 0));
                Due.is("costs(" + b + ", 1)", s.costs(b, 1), m.costs(b, 1));
            }
        }
    }

    /** Of all rows that are as long as the stick, some, and with a piece of each lost. */
    private static void rowsBy(String yard, int length) {
        List<int[]> rows = new ArrayList<>();
        for (int a = 1; a <= length; a++) {
            for (int b = 0; a + b <= length; b++) {
                for (int c = 0; a + b + c <= length; c++) {
                    int d = length - a - b - c;
                    boolean gap = b == 0 && c + d > 0 || c == 0 && d > 0;
                    if (!gap && (a * 7 + b * 5 + c * 3) % (1 + length * length / 40) == 0) {
                        rows.add(new int[] {a, b, c, d});
                    }
                }
            }
        }
        int[] kinds = {0, 1, 2, 3, 6, 5};
        for (int from = 0; from < rows.size(); from += 8) {
            BrokenThree s = new BrokenThree();
            Model m = laid(s, yard, kinds, 2);
            for (int[] row : rows.subList(from, Math.min(rows.size(), from + 8))) {
                Due.promise(24, "rows told back, " + yard + ", " + java.util.Arrays.toString(row));
                told(s, m, row, -1);
                for (int b = 0; b < kinds.length; b++) {
                    same("orders(" + b + ")", s.orders(b), m.orders(b));
                    same("chance(" + b + ", 0)", s.chance(b, 0), m.chance(b, 0));
                    same("chance(" + b + ", 1)", s.chance(b, 1), m.chance(b, 1));
                }
                same("who()", s.who(), m.who());
                Due.is("likeliest()", s.likeliest(), m.likeliest());
                told(s, m, row, (row[0] + row[1]) % 2);
                for (int b = 0; b < kinds.length; b++) {
                    Due.is("lost(" + b + ")", s.lost(b), m.lost(b));
                }
            }
        }
    }

    /** The row is told to both, but for the piece that is lost. */
    private static void told(BrokenThree s, Model m, int[] row, int lost) {
        s.see(-1);
        m.see(-1);
        for (int i = 0; i < row.length; i++) {
            if (i != lost && row[i] > 0) {
                same("see(" + row[i] + ")", s.see(row[i]), m.see(row[i]));
            }
        }
    }

    private static void lengthAlone(int length) {
        BrokenThree s = new BrokenThree();
        Model m = laid(s, "long " + length, new int[0], 0);
        Due.promise(15, "until, long " + length);
        for (int n = 1; n <= 16; n++) {
            Due.is("until(" + n + ", 0)", s.until(n, 0), m.until(n, 0));
            Due.is("until(" + n + ", 1)", s.until(n, 1), m.until(n, 1));
        }
        Due.promise(22, "sawn, long " + length);
        for (int p = 3; p <= 6; p++) {
            for (int k = -1; k <= 5; k++) {
                Due.is("sawn(" + p + ", " + k + ")", s.sawn(p, k), m.sawn(p, k));
            }
        }
    }
}
