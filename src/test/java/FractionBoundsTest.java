/** The bounds of part 1 of the terms (fractions, registers) and of promises 1 to 5. */
public final class FractionBoundsTest {
    private static final Checks checks = new Checks();

    public static void main(String[] args) {
        registersAreZeroAtFirst();
        registersAre0To7();
        pIs0To1000000();
        qIs1To1000000();
        boundsAreJudgedAsTold();
        partIs0Or1();
        whatIs0To3();
        reckonSpentByP();
        reckonSpentByQ();
        reckonIsJudgedInLowestTerms();
        lessMayBe0ButNotBelow();
        by0IsNo();
        badComesFirst();
        refusedReckonLeavesAll();
        toMayBeAOrB();
        againstAtTheBounds();
        countOfRegisters();
        checks.end();
    }

    private static void registersAreZeroAtFirst() {
        SingleShares x = new SingleShares();
        for (int register = 0; register <= 7; register++) {
            holds(x, register, 0, 1);
        }
        checks.due("none is held at first", x.count(0), 0);
        checks.due("no WISHES at first", x.count(1), 0);
        checks.due("no FAULT at first", x.fault(), Use.NONE);
    }

    private static void registersAre0To7() {
        SingleShares x = new SingleShares();
        for (int register : new int[] {-1, 8, Use.LOWEST, Use.HIGHEST}) {
            String name = "register " + register;
            checks.due("hold " + name, x.hold(register, 1, 2), Use.BAD);
            checks.due("told " + name, x.told(register, 0), Use.BAD);
            checks.due("told " + name, x.told(register, 1), Use.BAD);
            checks.due("reckon to " + name, x.reckon(register, 0, 0, 0), Use.BAD);
            checks.due("reckon a " + name, x.reckon(0, 0, register, 0), Use.BAD);
            checks.due("reckon b " + name, x.reckon(0, 0, 0, register), Use.BAD);
            checks.due("against a " + name, x.against(register, 0), Use.BAD);
            checks.due("against b " + name, x.against(0, register), Use.BAD);
        }
        checks.due("none of these was taken", x.count(0), 0);
        for (int register : new int[] {0, 7}) {
            checks.due("hold in " + register, x.hold(register, register + 1, 9), 0);
        }
        holds(x, 0, 1, 9);
        holds(x, 7, 8, 9);
        checks.due("reckon with 0 and 7", x.reckon(7, 1, 7, 0), 0);
        holds(x, 7, 7, 9);
        checks.due("reckon to 0", x.reckon(0, 0, 0, 7), 0);
        holds(x, 0, 8, 9);
        checks.due("against of 0 and 7", x.against(0, 7), 1);
    }

    private static void pIs0To1000000() {
        SingleShares x = Use.holding(7, 9);
        for (int p : new int[] {-1, 1000001, -1000000, Use.LOWEST, Use.HIGHEST}) {
            checks.due("p " + p, x.hold(0, p, 3), Use.BAD);
            holds(x, 0, 7, 9);
        }
        checks.due("p 0", x.hold(0, 0, 3), 0);
        holds(x, 0, 0, 1);
        checks.due("p 1", x.hold(0, 1, 3), 0);
        holds(x, 0, 1, 3);
        checks.due("p 999999", x.hold(0, 999999, 5), 0);
        holds(x, 0, 999999, 5);
        checks.due("p 1000000", x.hold(0, 1000000, 3), 0);
        holds(x, 0, 1000000, 3);
    }

    private static void qIs1To1000000() {
        SingleShares x = Use.holding(7, 9);
        for (int q : new int[] {0, -1, 1000001, -1000000, Use.LOWEST, Use.HIGHEST}) {
            checks.due("q " + q, x.hold(0, 3, q), Use.BAD);
            holds(x, 0, 7, 9);
        }
        checks.due("q 1", x.hold(0, 3, 1), 0);
        holds(x, 0, 3, 1);
        checks.due("q 2", x.hold(0, 3, 2), 0);
        holds(x, 0, 3, 2);
        checks.due("q 1000000", x.hold(0, 3, 1000000), 0);
        holds(x, 0, 3, 1000000);
    }

    private static void boundsAreJudgedAsTold() {
        SingleShares x = Use.holding(7, 9);
        checks.due("2 by 2 a million times", x.hold(0, 2000000, 2000000), Use.BAD);
        checks.due("p alone above", x.hold(0, 1000002, 2), Use.BAD);
        checks.due("q alone above", x.hold(0, 2, 1000002), Use.BAD);
        checks.due("both below 0", x.hold(0, -1, -2), Use.BAD);
        checks.due("0 by 0", x.hold(0, 0, 0), Use.BAD);
        holds(x, 0, 7, 9);
        checks.due("both the most", x.hold(0, 1000000, 1000000), 0);
        holds(x, 0, 1, 1);
        checks.due("0 by the most", x.hold(0, 0, 1000000), 0);
        holds(x, 0, 0, 1);
    }

    private static void partIs0Or1() {
        SingleShares x = Use.holding(7, 9);
        for (int part : new int[] {-1, 2, Use.LOWEST, Use.HIGHEST}) {
            checks.due("part " + part, x.told(0, part), Use.BAD);
        }
        holds(x, 0, 7, 9);
    }

    private static void whatIs0To3() {
        SingleShares x = Use.holding(3, 4);
        x.hold(1, 1, 4);
        for (int what : new int[] {-1, 4, Use.LOWEST, Use.HIGHEST}) {
            checks.due("what " + what, x.reckon(2, what, 0, 1), Use.BAD);
            holds(x, 2, 0, 1);
        }
        reckons(x, 0, 1, 1);
        reckons(x, 1, 1, 2);
        reckons(x, 2, 3, 16);
        reckons(x, 3, 3, 1);
    }

    private static void reckonSpentByP() {
        // 64 times 15625 is 1000000, 101 times 9901 is 1000001.
        reckonsFrom(999999, 1, 1, 1, 0, 1000000, 1);
        spentFrom(1000000, 1, 1, 1, 0);
        reckonsFrom(1000000, 1, 0, 1, 1, 1000000, 1);
        reckonsFrom(333334, 1, 2, 3, 1, 1000000, 3);
        spentFrom(500001, 1, 1, 2, 1);
        reckonsFrom(64, 1, 15625, 1, 2, 1000000, 1);
        spentFrom(101, 1, 9901, 1, 2);
        reckonsFrom(64, 1, 1, 15625, 3, 1000000, 1);
        spentFrom(101, 1, 1, 9901, 3);
        spentFrom(1000000, 1, 1000000, 1, 2);
        spentFrom(1000000, 1, 1, 1000000, 3);
        spentFrom(1000000, 1, 1000000, 1, 0);
    }

    private static void reckonSpentByQ() {
        reckonsFrom(1, 64, 1, 15625, 0, 15689, 1000000);
        spentFrom(1, 101, 1, 9901, 0);
        reckonsFrom(1, 64, 1, 15625, 1, 15561, 1000000);
        spentFrom(1, 101, 1, 9901, 1);
        reckonsFrom(1, 64, 1, 15625, 2, 1, 1000000);
        spentFrom(1, 101, 1, 9901, 2);
        reckonsFrom(1, 64, 15625, 1, 3, 1, 1000000);
        spentFrom(1, 101, 9901, 1, 3);
        spentFrom(1, 1000000, 1, 1000000, 2);
        spentFrom(1, 999999, 1, 1000000, 0);
        spentFrom(999999, 1000000, 999998, 999999, 3);
    }

    private static void reckonIsJudgedInLowestTerms() {
        reckonsFrom(1000000, 1, 1, 1000000, 2, 1, 1);
        reckonsFrom(1000000, 999999, 1000000, 999999, 3, 1, 1);
        reckonsFrom(500000, 1, 500000, 1, 0, 1000000, 1);
        reckonsFrom(1, 1000000, 1, 1000000, 0, 1, 500000);
        reckonsFrom(999999, 1000000, 1, 1000000, 0, 1, 1);
        reckonsFrom(1000000, 999999, 1, 999999, 1, 1, 1);
    }

    private static void lessMayBe0ButNotBelow() {
        reckonsFrom(999999, 1000000, 999999, 1000000, 1, 0, 1);
        refusedFrom(999998, 999999, 999999, 1000000, 1, Use.NO);
        refusedFrom(0, 1, 1, 1000000, 1, Use.NO);
        refusedFrom(0, 1, 1000000, 1, 1, Use.NO);
        // Below 0 and with too great a q: NO is told ahead of SPENT.
        refusedFrom(1, 1000000, 1, 999999, 1, Use.NO);
        refusedFrom(1, 999999, 1, 1000000, 1, Use.SPENT);
    }

    private static void by0IsNo() {
        refusedFrom(1, 2, 0, 1, 3, Use.NO);
        refusedFrom(0, 1, 0, 1, 3, Use.NO);
        refusedFrom(1000000, 1, 0, 1, 3, Use.NO);
        reckonsFrom(0, 1, 1, 1000000, 3, 0, 1);
        reckonsFrom(0, 1, 1000000, 1, 2, 0, 1);
    }

    private static void badComesFirst() {
        SingleShares x = Use.holding(1, 2);
        x.hold(1, 1000000, 1);
        checks.due("to, and by 0", x.reckon(8, 3, 0, 7), Use.BAD);
        checks.due("to, and below 0", x.reckon(-1, 1, 0, 1), Use.BAD);
        checks.due("to, and too great", x.reckon(8, 0, 1, 1), Use.BAD);
        checks.due("a, and by 0", x.reckon(2, 3, 8, 7), Use.BAD);
        checks.due("b, and all else well", x.reckon(2, 3, 0, -1), Use.BAD);
        checks.due("what, and by 0", x.reckon(2, 4, 0, 7), Use.BAD);
        checks.due("both of hold", x.hold(8, -1, 0), Use.BAD);
    }

    private static void refusedReckonLeavesAll() {
        SingleShares x = Use.holding(1, 101);
        x.hold(1, 1, 9901);
        x.hold(2, 7, 9);
        checks.due("SPENT", x.reckon(0, 2, 0, 1), Use.SPENT);
        checks.due("NO, below 0", x.reckon(1, 1, 1, 0), Use.NO);
        checks.due("NO, by 0", x.reckon(2, 3, 0, 7), Use.NO);
        checks.due("NO, by 0, to itself", x.reckon(7, 3, 0, 7), Use.NO);
        checks.due("BAD", x.reckon(2, 4, 0, 1), Use.BAD);
        holds(x, 0, 1, 101);
        holds(x, 1, 1, 9901);
        holds(x, 2, 7, 9);
        holds(x, 7, 0, 1);
        checks.due("as many are held", x.count(0), 3);
    }

    private static void toMayBeAOrB() {
        SingleShares x = Use.holding(2, 3);
        checks.due("a and a to a", x.reckon(0, 0, 0, 0), 0);
        holds(x, 0, 4, 3);
        x.hold(1, 1, 6);
        checks.due("a less b to b", x.reckon(1, 1, 0, 1), 0);
        holds(x, 1, 7, 6);
        checks.due("a by b to a", x.reckon(0, 3, 0, 1), 0);
        holds(x, 0, 8, 7);
        holds(x, 1, 7, 6);
        checks.due("a by a to a", x.reckon(0, 3, 0, 0), 0);
        holds(x, 0, 1, 1);
        checks.due("a less a to a", x.reckon(0, 1, 0, 0), 0);
        holds(x, 0, 0, 1);
    }

    private static void againstAtTheBounds() {
        int[][] rising = {{0, 1}, {1, 1000000}, {1, 999999}, {999998, 999999}, {999999, 1000000}, {1, 1}, {1000000, 999999}, {1000000, 1}};
        for (int i = 0; i < rising.length; i++) {
            for (int j = 0; j < rising.length; j++) {
                SingleShares x = Use.holding(rising[i][0], rising[i][1]);
                x.hold(7, rising[j][0], rising[j][1]);
                checks.due("against " + i + " " + j, x.against(0, 7), i > j ? 1 : i == j ? 0 : 2);
            }
        }
    }

    private static void countOfRegisters() {
        SingleShares x = new SingleShares();
        for (int register = 0; register <= 7; register++) {
            x.hold(register, 1, 1000000);
            checks.due("held up to " + register, x.count(0), register + 1);
        }
        x.hold(7, 0, 5);
        x.reckon(0, 1, 0, 0);
        checks.due("two are 0 again", x.count(0), 6);
        checks.due("what -1", x.count(-1), Use.BAD);
        checks.due("what 4", x.count(4), Use.BAD);
        checks.due("what lowest", x.count(Use.LOWEST), Use.BAD);
        checks.due("what highest", x.count(Use.HIGHEST), Use.BAD);
    }

    private static void reckons(SingleShares x, int what, int p, int q) {
        checks.due("reckon " + what, x.reckon(2, what, 0, 1), 0);
        holds(x, 2, p, q);
    }

    private static SingleShares holdingBoth(int p, int q, int r, int s) {
        SingleShares x = Use.holding(p, q);
        x.hold(1, r, s);
        x.hold(2, 7, 9);
        return x;
    }

    private static void reckonsFrom(int p, int q, int r, int s, int what, int above, int below) {
        SingleShares x = holdingBoth(p, q, r, s);
        checks.due("reckon " + what + " of " + p + " by " + q + " and " + r + " by " + s, x.reckon(2, what, 0, 1), 0);
        holds(x, 2, above, below);
    }

    private static void spentFrom(int p, int q, int r, int s, int what) {
        refusedFrom(p, q, r, s, what, Use.SPENT);
    }

    private static void refusedFrom(int p, int q, int r, int s, int what, int answer) {
        SingleShares x = holdingBoth(p, q, r, s);
        checks.due("reckon " + what + " of " + p + " by " + q + " and " + r + " by " + s, x.reckon(2, what, 0, 1), answer);
        holds(x, 0, p, q);
        holds(x, 1, r, s);
        holds(x, 2, 7, 9);
    }

    private static void holds(SingleShares x, int register, int p, int q) {
        checks.due("above of " + register, x.told(register, 0), p);
        checks.due("below of " + register, x.told(register, 1), q);
    }
}
