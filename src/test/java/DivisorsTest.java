/** Promises 15 to 17: multiple, divisor, handy. */
public final class DivisorsTest {
    private static final Checks checks = new Checks();

    public static void main(String[] args) {
        told();
        refused();
        everyFraction();
        handy();
        checks.end();
    }

    private static void tells(int p, int q, int m, long... want) {
        SingleShares x = new SingleShares();
        x.hold(5, p, q);
        String name = p + " by " + q;
        checks.due("multiple of " + name, x.multiple(5), m);
        long[] got = new long[Math.max(0, x.divisor(5, -1))];
        for (int i = 0; i < got.length; i++) {
            got[i] = x.divisor(5, i);
        }
        checks.row("divisors of " + name, got, want);
        checks.due("behind the last of " + name, x.divisor(5, want.length), SingleShares.NONE);
        checks.due("far behind of " + name, x.divisor(5, Integer.MAX_VALUE), SingleShares.NONE);
    }

    private static void told() {
        tells(1, 2, 1, 1);
        tells(2, 3, 2, 3, 1);
        tells(3, 7, 4, 7, 4, 1);
        tells(5, 11, 3, 11, 3, 1);
        tells(22, 23, 8, 92, 46, 23, 8, 4, 2, 1);
        tells(1, 5000, 1, 1);
        tells(1, 4999, 1, 1);
        tells(3, 4, 1, 2, 1);
        // 12 and 5 are as few as 15 and 2: the greater ones are told.
        tells(17, 60, 1, 15, 2);
        tells(5, 12, 1, 4, 1);
    }

    private static void refused() {
        SingleShares x = new SingleShares();
        x.hold(1, 1, 1);
        x.hold(2, 3, 2);
        x.hold(3, 2, 4999);
        x.hold(4, 1, 5001);
        x.hold(5, 1, 2);
        for (int register = 0; register < 3; register++) {
            checks.due("not above 0 and below 1", x.multiple(register), SingleShares.NO);
            checks.due("not above 0 and below 1", x.divisor(register, -1), SingleShares.NO);
            checks.due("BAD ahead of NO", x.divisor(register, -2), SingleShares.BAD);
        }
        for (int register = 3; register < 5; register++) {
            checks.due("spent", x.multiple(register), SingleShares.SPENT);
            checks.due("spent", x.divisor(register, -1), SingleShares.SPENT);
            checks.due("spent", x.divisor(register, 99), SingleShares.SPENT);
            checks.due("BAD ahead of SPENT", x.divisor(register, -2), SingleShares.BAD);
        }
        for (int register : new int[] {-1, 8, Integer.MIN_VALUE, Integer.MAX_VALUE}) {
            checks.due("bad register", x.multiple(register), SingleShares.BAD);
            checks.due("bad register", x.divisor(register, 0), SingleShares.BAD);
        }
        checks.due("asked again after others", x.multiple(5), 1);
        x.hold(5, 2, 3);
        checks.due("another fraction there", x.divisor(5, 0), 3);
    }

    private static void everyFraction() {
        for (int q = 2; q <= 90; q++) {
            for (int p = 1; p < q; p++) {
                againstPlain(p, q);
            }
        }
        for (int q : new int[] {210, 331, 360, 499, 720, 840, 997, 1000, 1260, 1663, 1666, 1680, 2520, 2521, 3600, 4620, 4680, 4998, 5000}) {
            for (int p : new int[] {1, 2, 3, 5, 11, 97, 101, q / 4, q / 2 + 1, q - 3, q - 1}) {
                if (p < q) {
                    againstPlain(p, q);
                }
            }
        }
    }

    private static void againstPlain(int p, int q) {
        SingleShares x = new SingleShares();
        Plain plain = new Plain();
        x.hold(0, p, q);
        plain.hold(0, p, q);
        checks.due("multiple of " + p + " by " + q, x.multiple(0), plain.multiple(0));
        long many = plain.divisor(0, -1);
        for (int i = -1; i <= many; i++) {
            checks.due("divisor " + i + " of " + p + " by " + q, x.divisor(0, i), plain.divisor(0, i));
        }
    }

    private static void handy() {
        SingleShares x = new SingleShares();
        for (int n : new int[] {0, -1, 20001, Integer.MIN_VALUE, Integer.MAX_VALUE}) {
            checks.due("handy " + n, x.handy(n), SingleShares.BAD);
        }
        int many = 0;
        for (int n = 1; n <= 1000; n++) {
            many += new SingleShares().handy(n);
        }
        checks.due("handy ones up to 1000", many, 198);
        for (int n = 1; n <= 20000; n += n < 1500 || n > 19900 ? 1 : 7) {
            checks.due("handy " + n, new SingleShares().handy(n), Plain.handy(n));
        }
    }
}
