/** The bounds of part 4 of the terms (divisors, handy numbers) and of promises 15 to 17. */
public final class DivisorBoundsTest {
    private static final Checks checks = new Checks();

    public static void main(String[] args) {
        registersAre0To7();
        above0AndBelow1();
        qTimesMUpTo5000();
        mFarBelow200();
        divisorsAreUnlike();
        fewestAndGreatest();
        placesBeginAtMinus1();
        badComesFirst();
        asHeldNow();
        handyIs1To20000();
        handyUpToTheSum();
        checks.end();
    }

    private static void registersAre0To7() {
        SingleShares x = Use.holding(2, 3);
        x.hold(7, 3, 7);
        for (int register : new int[] {-1, 8, Use.LOWEST, Use.HIGHEST}) {
            checks.due("multiple for " + register, x.multiple(register), Use.BAD);
            checks.due("divisor for " + register, x.divisor(register, 0), Use.BAD);
            checks.due("divisors for " + register, x.divisor(register, -1), Use.BAD);
        }
        checks.due("multiple for 0", x.multiple(0), 2);
        checks.due("divisor for 0", x.divisor(0, 0), 3);
        checks.due("multiple for 7", x.multiple(7), 4);
        checks.due("divisor for 7", x.divisor(7, 0), 7);
    }

    private static void above0AndBelow1() {
        int[][] no = {{0, 1}, {1, 1}, {1000000, 999999}, {3, 2}, {1000000, 1}};
        for (int[] n : no) {
            refuses(n[0], n[1], Use.NO);
        }
        tells(1, 2, 1, 1);
        refuses(1, 1000000, Use.SPENT);
        refuses(999999, 1000000, Use.SPENT);
        tells(4999, 5000, 1, Plain.divisors(4999, 5000, 1));
    }

    private static void qTimesMUpTo5000() {
        tells(1, 5000, 1, 1);
        tells(3, 5000, 1, 2, 1);
        tells(1, 4999, 1, 1);
        refuses(1, 5001, Use.SPENT);
        // m would be 2: 4998 is taken, 5002 is too great.
        tells(2, 2499, 2, 3, 1);
        refuses(21, 2501, Use.SPENT);
        tells(625, 2498, 2, Plain.divisors(625, 2498, 2));
        // m would be 3: 5001 is too great, 4 by 1249 is not.
        refuses(556, 1667, Use.SPENT);
        tells(313, 1249, 4, Plain.divisors(313, 1249, 4));
        // m would be 36 (5004), and 22 (4994).
        refuses(68, 139, Use.SPENT);
        tells(31, 227, 22, Plain.divisors(31, 227, 22));
        refuses(2, 4999, Use.SPENT);
        // 2 by 10000 is 1 by 5000.
        SingleShares x = Use.holding(2, 10000);
        checks.due("in lowest terms", x.multiple(0), 1);
    }

    /** Only q up to 25 leaves room for m 200, and there 12 is the most: so NONE is never told. */
    private static void mFarBelow200() {
        int most = 0;
        for (int q = 2; q <= 25; q++) {
            for (int p = 1; p < q; p++) {
                int m = Use.holding(p, q).multiple(0);
                checks.holds(p + " by " + q + " has an m", m > 0);
                most = Math.max(most, m);
            }
        }
        checks.due("the most", most, 12);
        tells(11, 23, 12, Plain.divisors(11, 23, 12));
        // Of all fractions this one has the greatest m.
        tells(56, 113, 42, Plain.divisors(56, 113, 42));
    }

    private static void divisorsAreUnlike() {
        // 2 is 1 and 1 of 1 3; of 1 2 3 6 4 is 3 and 1.
        tells(2, 3, 2, 3, 1);
        tells(2, 5, 3, 5, 1);
        tells(2, 7, 4, 7, 1);
        tells(3, 4, 1, 2, 1);
    }

    private static void fewestAndGreatest() {
        tells(5, 6, 1, 3, 2);
        // 10 2 1 begins with a greater one than 8 5, but is more.
        tells(13, 40, 1, 8, 5);
        tells(17, 72, 1, 9, 8);
        // 12 and 5 are as few as 15 and 2.
        tells(17, 60, 1, 15, 2);
        // 30 and 1 is fewer than 20, 6 and 5.
        tells(31, 60, 1, 30, 1);
        // 30 20 5 4 is as few as 30 20 6 3, but lesser.
        tells(59, 60, 1, 30, 20, 6, 3);
        // 12 6 5, 15 6 2 and 20 2 1 are more.
        tells(23, 60, 1, 20, 3);
    }

    private static void placesBeginAtMinus1() {
        SingleShares x = Use.holding(3, 7);
        checks.due("-2", x.divisor(0, -2), Use.BAD);
        checks.due("lowest", x.divisor(0, Use.LOWEST), Use.BAD);
        checks.due("-1: how many", x.divisor(0, -1), 3);
        checks.due("0", x.divisor(0, 0), 7);
        checks.due("the last", x.divisor(0, 2), 1);
        checks.due("behind the last", x.divisor(0, 3), Use.NONE);
        checks.due("48", x.divisor(0, 48), Use.NONE);
        checks.due("highest", x.divisor(0, Use.HIGHEST), Use.NONE);
    }

    private static void badComesFirst() {
        SingleShares x = Use.holding(1, 5001);
        checks.due("SPENT, but i", x.divisor(0, -2), Use.BAD);
        checks.due("NO, but i", x.divisor(1, -2), Use.BAD);
        checks.due("register and i", x.divisor(8, -2), Use.BAD);
        checks.due("SPENT ahead of NONE", x.divisor(0, 99), Use.SPENT);
        checks.due("NO ahead of NONE", x.divisor(1, 99), Use.NO);
    }

    private static void asHeldNow() {
        SingleShares x = Use.holding(3, 7);
        checks.due("3 by 7", x.multiple(0), 4);
        x.hold(0, 1, 5001);
        checks.due("SPENT", x.multiple(0), Use.SPENT);
        checks.due("SPENT", x.divisor(0, -1), Use.SPENT);
        x.hold(0, 1, 1);
        checks.due("NO", x.divisor(0, 0), Use.NO);
        x.hold(0, 2, 3);
        checks.due("2 by 3 without asking for m", x.divisor(0, -1), 2);
        checks.due("2 by 3", x.divisor(0, 0), 3);
        x.hold(1, 3, 7);
        checks.due("two registers in turn", x.divisor(1, 0), 7);
        checks.due("two registers in turn", x.divisor(0, 0), 3);
        checks.due("two registers in turn", x.divisor(1, 2), 1);
        x.hold(1, 2, 7);
        checks.due("another p, the same q", x.divisor(1, -1), 2);
        x.hold(1, 2, 5);
        checks.due("another q, the same p", x.divisor(1, 0), 5);
    }

    private static void handyIs1To20000() {
        SingleShares x = new SingleShares();
        for (int n : new int[] {0, -1, 20001, Use.LOWEST, Use.HIGHEST}) {
            checks.due("handy " + n, x.handy(n), Use.BAD);
        }
        checks.due("handy 1", x.handy(1), 1);
        checks.due("handy 2", x.handy(2), 1);
        checks.due("handy 19999", x.handy(19999), 0);
        checks.due("handy 20000", x.handy(20000), 1);
    }

    private static void handyUpToTheSum() {
        SingleShares x = new SingleShares();
        // 1 3: no 2. 1 2 5 10: no 4. 1 2 7 14: no 4. 1 2 4 11 22 44: no 8. 1 2 4 5 10 20: all to 42.
        int[] not = {3, 5, 7, 9, 10, 14, 15, 44, 52, 70, 102, 19997};
        for (int n : not) {
            checks.due("handy " + n, x.handy(n), 0);
        }
        int[] handy = {4, 6, 8, 12, 16, 18, 20, 24, 28, 30, 32, 36, 66, 78, 88, 104, 16384, 19656, 19998};
        for (int n : handy) {
            checks.due("handy " + n, x.handy(n), 1);
        }
    }

    private static void tells(int p, int q, int m, long... want) {
        SingleShares x = Use.holding(p, q);
        String name = p + " by " + q;
        checks.due("multiple of " + name, x.multiple(0), m);
        long[] got = new long[Math.max(0, x.divisor(0, -1))];
        for (int i = 0; i < got.length; i++) {
            got[i] = x.divisor(0, i);
        }
        checks.row("divisors of " + name, got, want);
        checks.due("behind the last of " + name, x.divisor(0, want.length), Use.NONE);
    }

    private static void refuses(int p, int q, int answer) {
        SingleShares x = Use.holding(p, q);
        checks.due("multiple of " + p + " by " + q, x.multiple(0), answer);
        for (int i : new int[] {-1, 0, 1, 48, Use.HIGHEST}) {
            checks.due("divisor " + i + " of " + p + " by " + q, x.divisor(0, i), answer);
        }
        checks.due("divisor -2 of " + p + " by " + q, x.divisor(0, -2), Use.BAD);
    }
}
