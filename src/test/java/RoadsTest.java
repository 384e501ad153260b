import java.util.List;

/** Promises 6, 7 and 24: road, share, loaves. */
public final class RoadsTest {
    private static final int GREED = 0, ODD = 1, CUT = 2, MIDDLES = 3, FACTORS = 4;
    private static final Checks checks = new Checks();

    public static void main(String[] args) {
        told();
        spent();
        refused();
        everyFraction();
        loaves();
        checks.end();
    }

    private static void told() {
        tells(GREED, 4, 13, 4, 18, 468);
        tells(GREED, 1, 2, 2);
        tells(GREED, 2, 3, 2, 6);
        tells(GREED, 3, 7, 3, 11, 231);
        tells(GREED, 999, 1000, 2, 3, 7, 44, 12158, 1404249000);
        tells(ODD, 2, 3, 3, 5, 9, 45);
        tells(ODD, 1, 3, 3);
        tells(ODD, 2, 5, 3, 15);
        tells(ODD, 2, 1001, 501, 501501);
        tells(CUT, 1, 7, 7);
        tells(CUT, 2, 5, 5, 6, 30);
        tells(CUT, 3, 5, 5, 6, 7, 30, 31, 42, 930);
        tells(MIDDLES, 1, 7, 7);
        tells(MIDDLES, 4, 13, 4, 28, 70, 130);
        tells(MIDDLES, 2, 3, 2, 6);
        tells(FACTORS, 4, 13, 4, 20, 140, 1820);
        tells(FACTORS, 2, 3, 2, 6);
        tells(FACTORS, 1, 1000000, 1000000);
        // The very most: 16 shares, and shares that touch 1000000000000.
        tells(MIDDLES, 16, 17, 2, 6, 12, 20, 30, 42, 56, 72, 90, 110, 132, 156, 182, 210, 240, 272);
    }

    private static void spent() {
        int[][] spent = {
            {GREED, 5, 121}, {GREED, 999999, 1000000}, {ODD, 4, 13}, {ODD, 16, 17}, {CUT, 5, 121}, {CUT, 16, 17},
            {CUT, 17, 19}, {CUT, 999999, 1000000}, {MIDDLES, 17, 18}, {MIDDLES, 999999, 1000000}, {FACTORS, 999999, 1000000}};
        for (int[] s : spent) {
            SingleShares x = new SingleShares();
            x.hold(1, s[1], s[2]);
            checks.due(name(s[0], s[1], s[2]), x.road(s[0], 1), SingleShares.SPENT);
            checks.due(name(s[0], s[1], s[2]) + " share 0", x.share(s[0], 1, 0), SingleShares.SPENT);
            checks.due(name(s[0], s[1], s[2]) + " share 99", x.share(s[0], 1, 99), SingleShares.SPENT);
            checks.due(name(s[0], s[1], s[2]) + " share -1", x.share(s[0], 1, -1), SingleShares.BAD);
        }
    }

    private static void refused() {
        SingleShares x = new SingleShares();
        x.hold(1, 1, 1);
        x.hold(2, 3, 2);
        x.hold(3, 3, 4);
        for (int road = 0; road < 5; road++) {
            for (int register = 0; register < 3; register++) {
                checks.due("not below 1 or 0", x.road(road, register), SingleShares.NO);
                checks.due("not below 1 or 0", x.share(road, register, 0), SingleShares.NO);
                checks.due("BAD ahead of NO", x.share(road, register, -1), SingleShares.BAD);
            }
            checks.due("register 8", x.road(road, 8), SingleShares.BAD);
            checks.due("register -1", x.road(road, -1), SingleShares.BAD);
            checks.due("register 8", x.share(road, 8, 0), SingleShares.BAD);
            checks.due("register -1", x.share(road, -1, 0), SingleShares.BAD);
        }
        checks.due("odd of even", x.road(ODD, 3), SingleShares.NO);
        checks.due("odd of even", x.share(ODD, 3, 5), SingleShares.NO);
        for (int road : new int[] {-1, 5, Integer.MIN_VALUE, Integer.MAX_VALUE}) {
            checks.due("road " + road, x.road(road, 3), SingleShares.BAD);
            checks.due("share of road " + road, x.share(road, 3, 0), SingleShares.BAD);
        }
        checks.due("not so many", x.share(GREED, 3, 2), SingleShares.NONE);
        checks.due("not so many", x.share(GREED, 3, Integer.MAX_VALUE), SingleShares.NONE);
        checks.due("the last", x.share(GREED, 3, 1), 4);
    }

    private static void everyFraction() {
        for (int q = 2; q <= 120; q++) {
            for (int p = 1; p < q; p++) {
                againstPlain(p, q);
            }
        }
        for (int q : new int[] {997, 1001, 4095, 30030, 99999, 524287, 720720, 999983, 999999, 1000000}) {
            for (int p : new int[] {1, 2, 3, 4, 5, 7, 8, 11, 15, 16, 17, q / 2, q / 3, q - 2, q - 1}) {
                againstPlain(p, q);
            }
        }
    }

    private static void againstPlain(int p, int q) {
        SingleShares x = new SingleShares();
        Plain plain = new Plain();
        x.hold(0, p, q);
        plain.hold(0, p, q);
        for (int road = 0; road < 5; road++) {
            checks.due(name(road, p, q), x.road(road, 0), plain.road(road, 0));
            for (int i = 0; i < plain.road(road, 0); i++) {
                checks.due(name(road, p, q) + " share " + i, x.share(road, 0, i), plain.share(road, 0, i));
            }
        }
    }

    private static void loaves() {
        SingleShares x = new SingleShares();
        checks.due("pieces", x.loaves(GREED, 4, 13, 0), 39);
        checks.due("whole", x.loaves(GREED, 4, 13, 1), 6);
        checks.due("left", x.loaves(GREED, 4, 13, 2), 463);
        checks.due("people as told", x.loaves(GREED, 8, 26, 0), 78);
        checks.due("whole as told", x.loaves(GREED, 8, 26, 1), 7 + 2 + 1);
        checks.due("left as told", x.loaves(GREED, 8, 26, 2), 2 + 10 + 442);
        checks.due("even in lowest terms", x.loaves(ODD, 2, 4, 0), SingleShares.NO);
        checks.due("odd in lowest terms", x.loaves(ODD, 2, 6, 0), 6);
        checks.due("spent", x.loaves(CUT, 17, 19, 1), SingleShares.SPENT);
        checks.due("the most", x.loaves(GREED, 1, 1000, 0), 1000);
        int[][] bad = {{-1, 1, 2, 0}, {5, 1, 2, 0}, {0, 0, 2, 0}, {0, -1, 2, 0}, {0, 2, 2, 0}, {0, 3, 2, 0}, {0, 1, 1001, 0},
            {0, 1, 1, 0}, {0, 1, 0, 0}, {0, 1, 2, -1}, {0, 1, 2, 3}, {1, 1, 2, 3}, {0, Integer.MIN_VALUE, Integer.MIN_VALUE + 1, 0}};
        for (int[] b : bad) {
            checks.due("bad loaves", x.loaves(b[0], b[1], b[2], b[3]), SingleShares.BAD);
        }
        for (int q = 2; q <= 1000; q += q < 60 ? 1 : 47) {
            for (int p = 1; p < q; p += q < 60 ? 1 : 13) {
                x = new SingleShares();
                for (int road = 0; road < 5; road++) {
                    for (int what = 0; what < 3; what++) {
                        checks.due("loaves of " + name(road, p, q) + " " + what, x.loaves(road, p, q, what), Plain.loaves(road, p, q, what));
                    }
                }
            }
        }
        checks.due("no register is touched", x.count(0), 0);
    }

    private static void tells(int road, int p, int q, long... want) {
        SingleShares x = new SingleShares();
        x.hold(3, p, q);
        long[] got = new long[Math.max(0, x.road(road, 3))];
        for (int i = 0; i < got.length; i++) {
            got[i] = x.share(road, 3, i);
        }
        checks.row(name(road, p, q), got, want);
        checks.due(name(road, p, q) + " behind the last", x.share(road, 3, want.length), SingleShares.NONE);
    }

    private static String name(int road, int p, int q) {
        return List.of("GREED", "ODD", "CUT", "MIDDLES", "FACTORS").get(road) + " " + p + " by " + q;
    }
}
