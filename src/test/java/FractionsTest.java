/** Promises 1 to 5: a new object, hold, told, reckon, against; and what count(0) says of them. */
public final class FractionsTest {
    private static final Checks checks = new Checks();

    public static void main(String[] args) {
        newObject();
        holdAndTold();
        reckon();
        against();
        checks.end();
    }

    private static void newObject() {
        SingleShares x = new SingleShares();
        for (int i = 0; i < 8; i++) {
            checks.due("new told(" + i + ", 0)", x.told(i, 0), 0);
            checks.due("new told(" + i + ", 1)", x.told(i, 1), 1);
        }
        checks.due("new count(0)", x.count(0), 0);
        checks.due("new count(1)", x.count(1), 0);
        checks.due("new count(2)", x.count(2), 0);
        checks.due("new count(3)", x.count(3), 0);
        checks.due("new fault()", x.fault(), SingleShares.NONE);
        checks.due("new best()", x.best(), SingleShares.NO);
    }

    private static void holdAndTold() {
        SingleShares x = new SingleShares();
        checks.due("hold", x.hold(7, 12, 18), 0);
        holds(x, 7, 2, 3);
        checks.due("hold 0 by 9", x.hold(6, 0, 9), 0);
        holds(x, 6, 0, 1);
        checks.due("hold the most", x.hold(5, 1000000, 999999), 0);
        holds(x, 5, 1000000, 999999);
        checks.due("hold alike", x.hold(4, 1000000, 1000000), 0);
        holds(x, 4, 1, 1);
        int[][] bad = {{-1, 1, 2}, {8, 1, 2}, {7, -1, 2}, {7, 1, 0}, {7, 1, -1}, {7, 1000001, 1}, {7, 1, 1000001},
            {7, 2000000, 2000000}, {Integer.MIN_VALUE, 1, 2}, {7, Integer.MIN_VALUE, 2}, {7, 1, Integer.MAX_VALUE}};
        for (int[] b : bad) {
            checks.due("bad hold", x.hold(b[0], b[1], b[2]), SingleShares.BAD);
        }
        holds(x, 7, 2, 3);
        checks.due("told part 2", x.told(0, 2), SingleShares.BAD);
        checks.due("told part -1", x.told(0, -1), SingleShares.BAD);
        checks.due("told register -1", x.told(-1, 0), SingleShares.BAD);
        checks.due("told register 8", x.told(8, 1), SingleShares.BAD);
        checks.due("count(0)", x.count(0), 3);
        checks.due("hold 0 again", x.hold(7, 0, 5), 0);
        checks.due("count(0) less one", x.count(0), 2);
    }

    private static void reckon() {
        SingleShares x = new SingleShares();
        x.hold(0, 3, 4);
        x.hold(1, 5, 6);
        reckons(x, 0, 1, 0, 19, 12);
        reckons(x, 1, 0, 1, 1, 12);
        reckons(x, 0, 1, 2, 5, 8);
        reckons(x, 0, 1, 3, 9, 10);
        reckons(x, 0, 0, 1, 0, 1);
        reckons(x, 7, 1, 2, 0, 1);
        reckons(x, 7, 1, 3, 0, 1);
        reckons(x, 7, 7, 0, 0, 1);
        x.hold(2, 1, 2);
        checks.due("less below 0", x.reckon(2, 1, 0, 1), SingleShares.NO);
        checks.due("by 0", x.reckon(2, 3, 0, 7), SingleShares.NO);
        checks.due("0 by 0", x.reckon(2, 3, 7, 7), SingleShares.NO);
        holds(x, 2, 1, 2);
        checks.due("to itself", x.reckon(2, 0, 2, 2), 0);
        holds(x, 2, 1, 1);
        int[][] bad = {{-1, 0, 0, 0}, {8, 0, 0, 0}, {0, -1, 0, 0}, {0, 4, 0, 0}, {0, 0, -1, 0}, {0, 0, 8, 0},
            {0, 0, 0, -1}, {0, 0, 0, 8}, {0, 3, 8, 7}, {8, 3, 0, 7}};
        for (int[] b : bad) {
            checks.due("bad reckon", x.reckon(b[0], b[1], b[2], b[3]), SingleShares.BAD);
        }
        holds(x, 0, 3, 4);
        spent(x);
    }

    private static void spent(SingleShares x) {
        x.hold(3, 1, 1000000);
        x.hold(4, 1, 999999);
        x.hold(5, 1000000, 1);
        x.hold(6, 1, 1);
        x.hold(2, 7, 9);
        checks.due("q too great", x.reckon(2, 0, 3, 4), SingleShares.SPENT);
        checks.due("q too great, less", x.reckon(2, 1, 4, 3), SingleShares.SPENT);
        checks.due("q too great, times", x.reckon(2, 2, 3, 4), SingleShares.SPENT);
        checks.due("p too great", x.reckon(2, 0, 5, 6), SingleShares.SPENT);
        checks.due("p too great, by", x.reckon(2, 3, 5, 3), SingleShares.SPENT);
        checks.due("NO ahead of SPENT", x.reckon(2, 1, 3, 4), SingleShares.NO);
        holds(x, 2, 7, 9);
        checks.due("in lowest terms", x.reckon(2, 2, 5, 3), 0);
        holds(x, 2, 1, 1);
        checks.due("the most", x.reckon(2, 1, 5, 6), 0);
        holds(x, 2, 999999, 1);
    }

    private static void against() {
        SingleShares x = new SingleShares();
        x.hold(0, 999998, 999999);
        x.hold(1, 999999, 1000000);
        x.hold(2, 4, 6);
        x.hold(3, 2, 3);
        checks.due("below", x.against(0, 1), 2);
        checks.due("above", x.against(1, 0), 1);
        checks.due("alike", x.against(2, 3), 0);
        checks.due("itself", x.against(1, 1), 0);
        checks.due("0", x.against(7, 0), 2);
        int[][] bad = {{-1, 0}, {8, 0}, {0, -1}, {0, 8}};
        for (int[] b : bad) {
            checks.due("bad against", x.against(b[0], b[1]), SingleShares.BAD);
        }
    }

    private static void reckons(SingleShares x, int a, int b, int what, int p, int q) {
        checks.due("reckon " + what, x.reckon(2, what, a, b), 0);
        holds(x, 2, p, q);
    }

    private static void holds(SingleShares x, int register, int p, int q) {
        checks.due("above of " + register, x.told(register, 0), p);
        checks.due("below of " + register, x.told(register, 1), q);
    }
}
