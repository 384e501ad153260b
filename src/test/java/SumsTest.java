import java.util.List;

/** Promises 8 to 14 and 25: sums, sum, wish, fault, best, cuts, beside, count. */
public final class SumsTest {
    private static final Checks checks = new Checks();

    public static void main(String[] args) {
        nothingAsked();
        sumsTold();
        sumsStay();
        badSums();
        wishes();
        best();
        cuts();
        everyFraction();
        checks.end();
    }

    private static SingleShares holding(int p, int q) {
        SingleShares x = new SingleShares();
        x.hold(0, p, q);
        return x;
    }

    private static long text(String letters) {
        long v = 0;
        for (char letter : letters.toCharArray()) {
            v = v << 8 | letter;
        }
        return v;
    }

    private static void nothingAsked() {
        SingleShares x = holding(1, 2);
        checks.due("sum", x.sum(0, 0), SingleShares.NO);
        checks.due("sum", x.sum(0, -1), SingleShares.NO);
        checks.due("sum", x.sum(-1, 0), SingleShares.BAD);
        checks.due("sum", x.sum(0, -2), SingleShares.BAD);
        checks.due("best", x.best(), SingleShares.NO);
        checks.due("cuts", x.cuts(0, 0), SingleShares.NO);
        checks.due("cuts", x.cuts(-1, 0), SingleShares.BAD);
        checks.due("cuts", x.cuts(0, -1), SingleShares.BAD);
        checks.due("beside", x.beside(0), SingleShares.NO);
        checks.due("beside", x.beside(-1), SingleShares.BAD);
        checks.due("count", x.count(2), 0);
        checks.due("count", x.count(3), 0);
        checks.due("count", x.count(4), SingleShares.BAD);
        checks.due("count", x.count(-1), SingleShares.BAD);
    }

    private static void tells(SingleShares x, int i, long... want) {
        long[] got = new long[Math.max(0, x.sum(i, -1))];
        for (int j = 0; j < got.length; j++) {
            got[j] = x.sum(i, j);
        }
        checks.row("sum " + i, got, want);
        checks.due("behind the last of sum " + i, x.sum(i, want.length), SingleShares.NONE);
    }

    private static void sumsTold() {
        SingleShares x = holding(1, 2);
        checks.due("1 by 2", x.sums(0, 24, 3), 7);
        tells(x, 0, 2);
        tells(x, 1, 3, 6);
        tells(x, 2, 3, 8, 24);
        tells(x, 3, 3, 9, 18);
        tells(x, 4, 3, 10, 15);
        tells(x, 5, 4, 5, 20);
        tells(x, 6, 4, 6, 12);
        checks.due("not so many", x.sum(7, 0), SingleShares.NONE);
        checks.due("not so many", x.sum(Integer.MAX_VALUE, -1), SingleShares.NONE);
        checks.due("no such share", x.sum(0, Integer.MAX_VALUE), SingleShares.NONE);
        checks.due("count(2)", x.count(2), 7);
        checks.due("count(3)", x.count(3), 1 + 2 + 3 * 5);
        checks.due("N is counted in", x.sums(0, 6, 2), 2);
        checks.due("none above N", x.sums(0, 5, 2), 1);
        checks.due("at most k", x.sums(0, 6, 1), 1);
        x.hold(1, 1, 60);
        checks.due("the greatest share", x.sums(1, 60, 6), 1);
        tells(x, 0, 60);
        x.hold(1, 1, 61);
        checks.due("none", x.sums(1, 60, 6), 0);
        checks.due("none told", x.sum(0, 0), SingleShares.NONE);
        checks.due("none best", x.best(), SingleShares.NONE);
        checks.due("none to cut", x.cuts(0, 0), SingleShares.NO);
        checks.due("none beside", x.beside(0), SingleShares.NO);
        checks.due("none counted", x.count(2) + x.count(3), 0);
        x.hold(1, 5, 12);
        checks.due("the most there are", x.sums(1, 60, 6), 391);
        tells(x, 390, 10, 11, 12, 15, 22, 33);
    }

    private static void sumsStay() {
        SingleShares x = holding(2, 3);
        checks.due("asked", x.sums(0, 6, 2), 1);
        x.hold(0, 1, 2);
        x.table(12, 40, 3, 0);
        x.table(2, 2, 1, 1);
        checks.due("NO", x.sums(7, 60, 6), SingleShares.NO);
        checks.due("BAD", x.sums(8, 60, 6), SingleShares.BAD);
        checks.due("stays", x.count(2), 1);
        tells(x, 0, 2, 6);
        checks.due("asked anew", x.sums(0, 2, 6), 1);
        tells(x, 0, 2);
    }

    private static void badSums() {
        SingleShares x = holding(1, 2);
        x.hold(1, 1, 1);
        x.hold(2, 3, 2);
        int[][] bad = {{-1, 2, 1}, {8, 2, 1}, {0, 1, 1}, {0, 61, 1}, {0, 2, 0}, {0, 2, 7}, {7, 61, 1}, {0, Integer.MIN_VALUE, 1}, {0, 2, Integer.MAX_VALUE}};
        for (int[] b : bad) {
            checks.due("bad sums", x.sums(b[0], b[1], b[2]), SingleShares.BAD);
        }
        for (int register = 1; register < 4; register++) {
            checks.due("not above 0 and below 1", x.sums(register, 2, 1), SingleShares.NO);
        }
        checks.due("still none", x.sum(0, 0), SingleShares.NO);
    }

    private static void wishes() {
        SingleShares x = holding(1, 2);
        checks.due("none", x.fault(), SingleShares.NONE);
        for (int n : new int[] {0, -1, 9, Integer.MIN_VALUE}) {
            checks.due("bad wish", x.wish(n, text("f")), SingleShares.BAD);
        }
        checks.due("none told", x.count(1), 0);
        checks.due("all six", x.wish(6, text("oesglf")), 6);
        checks.due("no fault", x.fault(), SingleShares.NONE);
        checks.due("six", x.count(1), 6);
        checks.due("bad leaves them", x.wish(9, 0) + x.count(1), SingleShares.BAD + 6);
        String[] texts = {"x", "fx", "ff", "flf", "flgseox", "flgseofl", "F", "oo", "fla", "\u0000f", "ef\u00e5"};
        int[] faults = {0, 1, 1, 2, 6, 6, 0, 1, 2, 0, 2};
        for (int i = 0; i < texts.length; i++) {
            checks.due("wish " + texts[i], x.wish(texts[i].length(), text(texts[i])), texts[i].length());
            checks.due("fault of " + texts[i], x.fault(), faults[i]);
            checks.due("how many of " + texts[i], x.count(1), texts[i].length());
        }
        checks.due("only n bytes", x.wish(2, text("xxxxxxfl")), 2);
        checks.due("only n bytes", x.fault(), SingleShares.NONE);
        checks.due("bytes above 127", x.wish(8, -1L), 8);
        checks.due("bytes above 127", x.fault(), 0);
        checks.due("0 bytes", x.wish(2, 'f'), 2);
        checks.due("0 bytes", x.fault(), 0);
    }

    private static void best() {
        SingleShares x = holding(1, 2);
        x.sums(0, 24, 3);
        String[] texts = {"f", "l", "g", "s", "e", "o", "ef", "el", "eo", "og", "ofl", "gs", "lf"};
        int[] bests = {0, 0, 5, 0, 6, 3, 6, 6, 6, 3, 4, 6, 0};
        for (int i = 0; i < texts.length; i++) {
            x.wish(texts[i].length(), text(texts[i]));
            checks.due("best by " + texts[i], x.best(), bests[i]);
        }
        x.wish(1, 'x');
        checks.due("a fault", x.best(), SingleShares.NO);
        x.hold(1, 59, 60);
        x.sums(1, 3, 6);
        checks.due("a fault ahead of none", x.best(), SingleShares.NO);
        x.wish(1, 'f');
        checks.due("none", x.best(), SingleShares.NONE);
    }

    private static void cuts() {
        SingleShares x = holding(1, 2);
        x.sums(0, 24, 3);
        // 2 - 3 6 - 3 8 24, 3 9 18, 3 10 15, and 3 6 - 4 6 12 by 3 cut into 4 and 12.
        checks.due("itself", x.cuts(3, 3), 0);
        checks.due("one", x.cuts(0, 1), 1);
        checks.due("two", x.cuts(0, 2), 2);
        checks.due("two", x.cuts(2, 3), 2);
        checks.due("back", x.cuts(6, 0), 2);
        checks.due("beside 2", x.beside(0), 1);
        checks.due("beside 3 6", x.beside(1), 5);
        checks.due("beside 3 8 24", x.beside(2), 1);
        checks.due("beside 4 5 20: for 5 20 4 is there", x.beside(5), 0);
        checks.due("from 4 5 20", x.cuts(5, 0), SingleShares.NONE);
        checks.due("beside 4 6 12: 4 12 become 3, for 6 12 4 is there", x.beside(6), 1);
        checks.due("not so many", x.cuts(0, 7), SingleShares.NO);
        checks.due("not so many", x.cuts(7, 0), SingleShares.NO);
        checks.due("not so many", x.beside(7), SingleShares.NO);
        checks.due("BAD ahead of NO", x.cuts(7, -1), SingleShares.BAD);
        checks.due("far", x.cuts(Integer.MAX_VALUE, 0), SingleShares.NO);
        x.hold(1, 4, 5);
        x.sums(1, 30, 4);
        checks.due("can't be", x.cuts(0, 1), SingleShares.NONE);
        x.sums(0, 6, 2);
        checks.due("asked anew", x.cuts(0, 1), 1);
    }

    private static void everyFraction() {
        for (int q = 2; q <= 60; q++) {
            for (int p = 1; p < q; p++) {
                againstPlain(p, q, 60, 4);
                againstPlain(p, q, 13 + p % 40, 6);
            }
        }
        int[][] more = {{1, 3}, {2, 3}, {3, 8}, {11, 24}, {5, 12}, {55, 221}, {16, 133}, {17, 209}, {59, 60}, {1, 1000000}, {25, 49},
            {13, 32}, {7, 27}, {3, 50}, {123, 3481}, {101, 667}, {331, 1147}, {5, 17}, {7, 29}, {90, 1711}, {34, 495}, {77, 780}};
        for (int[] m : more) {
            againstPlain(m[0], m[1], 60, 6);
            againstPlain(m[0], m[1], 59, 5);
        }
    }

    private static SingleShares asked(int p, int q, int n, int k) {
        SingleShares x = holding(p, q);
        x.sums(0, n, k);
        return x;
    }

    private static void againstPlain(int p, int q, int n, int k) {
        SingleShares x = holding(p, q);
        Plain plain = new Plain();
        plain.hold(0, p, q);
        String name = p + " by " + q + ", " + n + ", " + k + ": ";
        int size = (int) plain.sums(0, n, k);
        checks.due(name + "sums", x.sums(0, n, k), size);
        checks.due(name + "count(2)", x.count(2), size);
        checks.due(name + "count(3)", x.count(3), plain.count(3));
        for (int i = 0; i < size; i++) {
            if (i % 50 == 0) {
                x = asked(p, q, n, k); // more than 512 calls are not promised
            }
            for (int j = -1; j <= plain.sum(i, -1); j++) {
                checks.due(name + "sum " + i + " " + j, x.sum(i, j), plain.sum(i, j));
            }
            checks.due(name + "beside " + i, x.beside(i), plain.beside(i));
        }
        x = asked(p, q, n, k);
        for (int i = 0; i < size; i += 1 + size / 4) {
            for (int j = 0; j < size; j += 1 + size / 9) {
                checks.due(name + "cuts " + i + " " + j, x.cuts(i, j), plain.cuts(i, j));
            }
        }
        for (String wish : List.of("f", "l", "g", "s", "e", "o", "fl", "se", "og", "esl", "oflgse")) {
            x.wish(wish.length(), text(wish));
            plain.wish(wish.length(), text(wish));
            checks.due(name + "best by " + wish, x.best(), plain.best());
        }
    }
}
