/** Promises 18 to 23: pairs, pair, threes, table, rising, firstAbove. */
public final class PairsTablesTest {
    private static final Checks checks = new Checks();

    public static void main(String[] args) {
        pairs();
        refusedPairs();
        everyPair();
        threes();
        tables();
        rising();
        checks.end();
    }

    private static SingleShares holding(int p, int q) {
        SingleShares x = new SingleShares();
        x.hold(0, p, q);
        return x;
    }

    private static void tells(int p, int q, long... want) {
        SingleShares x = holding(p, q);
        long[] got = new long[2 * Math.max(0, x.pairs(0))];
        for (int i = 0; i < got.length; i++) {
            got[i] = x.pair(0, i / 2, i % 2);
        }
        checks.row("pairs of " + p + " by " + q, got, want);
        checks.due("behind the last", x.pair(0, want.length / 2, 0), SingleShares.NONE);
        checks.due("behind the last", x.pair(0, want.length / 2, 1), SingleShares.NONE);
    }

    private static void pairs() {
        tells(2, 3, 2, 6);
        tells(5, 6, 2, 3);
        tells(1, 2, 3, 6);
        tells(1, 6, 7, 42, 8, 24, 9, 18, 10, 15);
        tells(4, 5);
        tells(4999, 5000);
        tells(1, 4999, 5000, 24995000);
        SingleShares x = holding(1, 5000);
        checks.due("how great", x.pair(0, 0, 1), 25005000);
        x.hold(0, 1, 4620);
        checks.due("the most", x.pairs(0), 202);
        x.hold(0, 1, 2);
        checks.due("another fraction there", x.pair(0, 0, 0), 3);
    }

    private static void refusedPairs() {
        SingleShares x = holding(1, 2);
        x.hold(1, 1, 1);
        x.hold(2, 3, 2);
        x.hold(3, 1, 5001);
        for (int register : new int[] {1, 2, 3, 7}) {
            checks.due("pairs of " + register, x.pairs(register), SingleShares.NO);
            checks.due("pair of " + register, x.pair(register, 0, 0), SingleShares.NO);
            checks.due("threes of " + register, x.threes(register), SingleShares.NO);
            checks.due("BAD ahead of NO", x.pair(register, -1, 0), SingleShares.BAD);
            checks.due("BAD ahead of NO", x.pair(register, 0, 2), SingleShares.BAD);
        }
        for (int register : new int[] {-1, 8, Integer.MIN_VALUE, Integer.MAX_VALUE}) {
            checks.due("bad register", x.pairs(register), SingleShares.BAD);
            checks.due("bad register", x.pair(register, 0, 0), SingleShares.BAD);
            checks.due("bad register", x.threes(register), SingleShares.BAD);
        }
        checks.due("bad i", x.pair(0, -1, 0), SingleShares.BAD);
        checks.due("bad part", x.pair(0, 0, 2), SingleShares.BAD);
        checks.due("bad part", x.pair(0, 0, -1), SingleShares.BAD);
        checks.due("bad part ahead of NONE", x.pair(0, 99, 2), SingleShares.BAD);
        checks.due("none", x.pair(0, Integer.MAX_VALUE, 1), SingleShares.NONE);
    }

    private static void everyPair() {
        for (int q = 2; q <= 5000; q += q < 150 ? 1 : 331) {
            for (int p = 1; p < q; p += p < 40 ? 1 : 17) {
                SingleShares x = holding(p, q);
                Plain plain = new Plain();
                plain.hold(0, p, q);
                int many = (int) plain.pairs(0);
                checks.due("pairs of " + p + " by " + q, x.pairs(0), many);
                for (int i = 0; i <= many; i += 1 + many / 5) {
                    checks.due("pair " + i + " of " + p + " by " + q, x.pair(0, i, 0), plain.pair(0, i, 0));
                    checks.due("pair " + i + " of " + p + " by " + q, x.pair(0, i, 1), plain.pair(0, i, 1));
                }
            }
        }
    }

    private static void threes() {
        SingleShares x = holding(1, 12);
        checks.due("threes", x.threes(0), 142);
        x.hold(0, 4, 5);
        checks.due("threes", x.threes(0), 2);
        x.hold(0, 1, 2);
        // 3 7 42, 3 8 24, 3 9 18, 3 10 15, 4 5 20, 4 6 12
        checks.due("threes", x.threes(0), 6);
        x.hold(0, 1, 300);
        checks.due("threes", x.threes(0), 4980);
        x.hold(0, 1, 301);
        checks.due("q above 300", x.threes(0), SingleShares.NO);
        for (int q = 2; q <= 300; q += q < 40 ? 1 : 13) {
            for (int p = 1; p < q; p += p < 12 ? 1 : 19) {
                x = holding(p, q);
                Plain plain = new Plain();
                plain.hold(0, p, q);
                checks.due("threes of " + p + " by " + q, x.threes(0), plain.threes(0));
            }
        }
    }

    private static void tables() {
        SingleShares x = new SingleShares();
        long[] sevenths = {6, 1, 2, 3, 2, 3, 4};
        for (int p = 0; p < 7; p++) {
            checks.due("table of 7, p " + p, x.table(7, 40, 4, p), sevenths[p]);
        }
        checks.due("none", x.table(11, 40, 3, 8), SingleShares.NONE);
        checks.due("not in lowest terms", x.table(12, 12, 3, 6), 1);
        checks.due("one without is the hardest", x.table(7, 10, 2, 0), 2);
        checks.due("of several the least", x.table(5, 20, 4, 0), 4);
        checks.due("of several the least", x.table(6, 6, 2, 0), 4);
        int[][] bad = {{1, 2, 1, 0}, {61, 2, 1, 0}, {2, 1, 1, 0}, {2, 41, 1, 0}, {2, 2, 0, 0}, {2, 2, 5, 0}, {2, 2, 1, -1}, {2, 2, 1, 2},
            {Integer.MIN_VALUE, 2, 1, 0}, {2, Integer.MAX_VALUE, 1, 1}};
        for (int[] b : bad) {
            checks.due("bad table", x.table(b[0], b[1], b[2], b[3]), SingleShares.BAD);
        }
        for (int q = 2; q <= 60; q++) {
            for (int k = 1; k <= 4; k++) {
                for (int n : new int[] {2, 3, 7, 12, 19, 28, 33, 39, 40}) {
                    x = new SingleShares();
                    for (int p = 0; p < q; p += k < 4 ? 1 : 5) {
                        checks.due("table " + q + " " + n + " " + k + " " + p, x.table(q, n, k, p), Plain.table(q, n, k, p));
                    }
                }
            }
        }
        checks.due("no sums are asked by it", x.sum(0, 0), SingleShares.NO);
    }

    private static void rising() {
        SingleShares x = new SingleShares();
        checks.due("rising", x.rising(4, 0), 1);
        checks.due("rising", x.rising(4, 1), 1);
        checks.due("rising", x.rising(4, 2), 12);
        for (int n = 2; n <= 30; n++) {
            for (int part = 0; part < 3; part++) {
                checks.due("rising " + n + " " + part, x.rising(n, part), Plain.rising(n, part));
            }
        }
        for (int n : new int[] {1, 31, 0, -1, Integer.MIN_VALUE, Integer.MAX_VALUE}) {
            checks.due("rising " + n, x.rising(n, 0), SingleShares.BAD);
        }
        checks.due("bad part", x.rising(2, 3), SingleShares.BAD);
        checks.due("bad part", x.rising(2, -1), SingleShares.BAD);
        checks.due("first above 1", x.firstAbove(1), 4);
        checks.due("first above 2", x.firstAbove(2), 11);
        for (int w : new int[] {0, 3, -1, Integer.MIN_VALUE, Integer.MAX_VALUE}) {
            checks.due("first above " + w, x.firstAbove(w), SingleShares.BAD);
        }
    }
}
