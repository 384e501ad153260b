/** Short ways to make objects and to read whole rows from them. */
final class Use {
    static final int BAD = SingleShares.BAD, NO = SingleShares.NO, NONE = SingleShares.NONE, SPENT = SingleShares.SPENT;
    static final int GREED = 0, ODD = 1, CUT = 2, MIDDLES = 3, FACTORS = 4;
    static final int LOWEST = Integer.MIN_VALUE, HIGHEST = Integer.MAX_VALUE;

    private Use() {
    }

    /** A new object whose register 0 holds p by q. */
    static SingleShares holding(int p, int q) {
        SingleShares x = new SingleShares();
        x.hold(0, p, q);
        return x;
    }

    /** The letters as the bytes of a long, the last one lowest. */
    static long text(String letters) {
        long v = 0;
        for (char letter : letters.toCharArray()) {
            v = v << 8 | letter;
        }
        return v;
    }

    static void wish(SingleShares x, String letters) {
        x.wish(letters.length(), text(letters));
    }

    /** The shares of a road as told one by one; empty, if it is refused. */
    static long[] shares(SingleShares x, int road, int register) {
        long[] row = new long[Math.max(0, x.road(road, register))];
        for (int i = 0; i < row.length; i++) {
            row[i] = x.share(road, register, i);
        }
        return row;
    }

    /** The shares of one of ALL SUMS as told one by one; empty, if it is refused. */
    static long[] sum(SingleShares x, int i) {
        long[] row = new long[Math.max(0, x.sum(i, -1))];
        for (int j = 0; j < row.length; j++) {
            row[j] = x.sum(i, j);
        }
        return row;
    }
}
