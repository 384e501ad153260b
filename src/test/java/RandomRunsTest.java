import java.util.Random;

/** Runs of calls with arguments at random, each held against Plain; always the same runs. */
public final class RandomRunsTest {
    private static final Checks checks = new Checks();
    private static final int[] BELOW = {2, 3, 4, 5, 6, 7, 8, 9, 10, 11, 12, 13, 15, 20, 24, 30, 36, 60, 84, 120};
    private static final String LETTERS = "flgseo";
    private static Random random;

    private final SingleShares x = new SingleShares();
    private final Plain plain = new Plain();

    public static void main(String[] args) {
        int runs = args.length > 0 ? Integer.parseInt(args[0]) : 40;
        for (int seed = 1; seed <= runs; seed++) {
            random = new Random(seed);
            RandomRunsTest run = new RandomRunsTest();
            for (int call = 0; call < 512; call++) {
                run.step(seed);
            }
        }
        checks.end();
    }

    private void step(int seed) {
        int a = register();
        int b = register();
        int road = any(0, 4);
        switch (random.nextInt(28)) {
            case 0: case 1: case 2: holdOne(seed); break;
            case 3: int part = any(0, 1); tell(seed, "told", x.told(a, part), plain.told(a, part), a, part); break;
            case 4: int to = register(); int what = any(0, 3); tell(seed, "reckon", x.reckon(to, what, a, b), plain.reckon(to, what, a, b), to, what, a, b); break;
            case 5: tell(seed, "against", x.against(a, b), plain.against(a, b), a, b); break;
            case 6: tell(seed, "road", x.road(road, a), plain.road(road, a), road, a); break;
            case 7: int i = any(0, 6); tell(seed, "share", x.share(road, a, i), plain.share(road, a, i), road, a, i); break;
            case 8: sumsOne(seed, a); break;
            case 9: case 10: int j = sumPlace(); int s = any(-1, 5); tell(seed, "sum", x.sum(j, s), plain.sum(j, s), j, s); break;
            case 11: wishOne(seed); break;
            case 12: tell(seed, "fault", x.fault(), plain.fault()); break;
            case 13: case 14: tell(seed, "best", x.best(), plain.best()); break;
            case 15: int c = sumPlace(); int d = sumPlace(); tell(seed, "cuts", x.cuts(c, d), plain.cuts(c, d), c, d); break;
            case 16: int e = sumPlace(); tell(seed, "beside", x.beside(e), plain.beside(e), e); break;
            case 17: tell(seed, "multiple", x.multiple(a), plain.multiple(a), a); break;
            case 18: int f = any(-1, 4); tell(seed, "divisor", x.divisor(a, f), plain.divisor(a, f), a, f); break;
            case 19: int h = any(1, random.nextBoolean() ? 60 : 20000); tell(seed, "handy", x.handy(h), Plain.handy(h), h); break;
            case 20: tell(seed, "pairs", x.pairs(a), plain.pairs(a), a); break;
            case 21: int g = any(0, 5); int half = any(0, 1); tell(seed, "pair", x.pair(a, g, half), plain.pair(a, g, half), a, g, half); break;
            case 22: tell(seed, "threes", x.threes(a), plain.threes(a), a); break;
            case 23: tableOne(seed); break;
            case 24: int r = any(2, 30); int which = any(0, 2); tell(seed, "rising", x.rising(r, which), Plain.rising(r, which), r, which); break;
            case 25: int w = any(1, 2); tell(seed, "firstAbove", x.firstAbove(w), Plain.firstAbove(w), w); break;
            case 26: loavesOne(seed, road); break;
            default: int all = any(0, 3); tell(seed, "count", x.count(all), plain.count(all), all);
        }
    }

    private void holdOne(int seed) {
        int register = register();
        int q = random.nextInt(3) > 0 ? BELOW[random.nextInt(BELOW.length)] : any(1, random.nextBoolean() ? 300 : random.nextBoolean() ? 6000 : 1000000);
        int p = random.nextInt(4) > 0 ? 1 + random.nextInt(Math.max(1, Math.min(q, 20))) : any(0, Math.max(1, q - 1));
        tell(seed, "hold", x.hold(register, p, q), plain.hold(register, p, q), register, p, q);
    }

    private void sumsOne(int seed, int register) {
        int n = any(2, 60);
        int k = any(1, 6);
        tell(seed, "sums", x.sums(register, n, k), plain.sums(register, n, k), register, n, k);
    }

    private void wishOne(int seed) {
        int n = any(1, random.nextInt(3) > 0 ? 3 : 8);
        long v = 0;
        for (int i = 0; i < 8; i++) {
            v = v << 8 | (random.nextInt(12) > 0 ? LETTERS.charAt(random.nextInt(6)) : random.nextInt(256));
        }
        tell(seed, "wish", x.wish(n, v), plain.wish(n, v), n, v);
    }

    private void tableOne(int seed) {
        int q = any(2, 60);
        int n = any(2, 40);
        int k = any(1, 4);
        int p = random.nextInt(3) == 0 ? 0 : any(0, Math.max(1, q - 1));
        tell(seed, "table", x.table(q, n, k, p), Plain.table(q, n, k, p), q, n, k, p);
    }

    private void loavesOne(int seed, int road) {
        int q = any(1, random.nextBoolean() ? 30 : 1000);
        int p = any(1, Math.max(1, q - 1));
        int what = any(0, 2);
        tell(seed, "loaves", x.loaves(road, p, q, what), Plain.loaves(road, p, q, what), road, p, q, what);
    }

    private static int register() {
        return any(0, 7);
    }

    private int sumPlace() {
        return any(0, Math.max(1, (int) plain.count(2) - 1));
    }

    /** Mostly within the bounds, now and then at them, just outside or far away. */
    private static int any(int from, int to) {
        switch (random.nextInt(40)) {
            case 0: return from - 1;
            case 1: return to + 1;
            case 2: return from;
            case 3: return to;
            case 4: return random.nextInt();
            case 5: return random.nextBoolean() ? Integer.MIN_VALUE : Integer.MAX_VALUE;
            default: return from + random.nextInt(Math.max(1, Math.min(to, 1000000) - from + 1));
        }
    }

    private static void tell(int seed, String name, long got, long want, long... arguments) {
        checks.due("run " + seed + ": " + name + java.util.Arrays.toString(arguments), got, want);
    }
}
