import java.math.BigInteger;
import java.util.ArrayDeque;
import java.util.ArrayList;
import java.util.Arrays;
import java.util.Collections;
import java.util.List;
import java.util.TreeSet;

/** The document again, word by word and without haste: what SingleShares is held against. */
final class Plain {
    static final int BAD = -1, NO = -2, NONE = -4, SPENT = -5;
    private static final long SPENT_ABOVE = 1000000000000L;

    private final long[] p = new long[8];
    private final long[] q = {1, 1, 1, 1, 1, 1, 1, 1};
    private String wishes = "";
    private List<int[]> sums;

    private static boolean in(long x, long from, long to) {
        return from <= x && x <= to;
    }

    private static long gcd(long a, long b) {
        return b == 0 ? a : gcd(b, a % b);
    }

    private boolean proper(int r) {
        return p[r] > 0 && p[r] < q[r];
    }

    // ---- fractions

    long hold(int r, int above, int below) {
        if (!in(r, 0, 7) || !in(above, 0, 1000000) || !in(below, 1, 1000000)) {
            return BAD;
        }
        long g = gcd(above, below);
        p[r] = above / g;
        q[r] = below / g;
        return 0;
    }

    long told(int r, int part) {
        return !in(r, 0, 7) || !in(part, 0, 1) ? BAD : part == 0 ? p[r] : q[r];
    }

    long reckon(int to, int what, int a, int b) {
        if (!in(to, 0, 7) || !in(what, 0, 3) || !in(a, 0, 7) || !in(b, 0, 7)) {
            return BAD;
        }
        if (what == 1 && p[a] * q[b] < p[b] * q[a] || what == 3 && p[b] == 0) {
            return NO;
        }
        long above = what == 0 ? p[a] * q[b] + p[b] * q[a] : what == 1 ? p[a] * q[b] - p[b] * q[a] : what == 2 ? p[a] * p[b] : p[a] * q[b];
        long below = what == 3 ? q[a] * p[b] : q[a] * q[b];
        long g = gcd(above, below);
        if (above / g > 1000000 || below / g > 1000000) {
            return SPENT;
        }
        p[to] = above / g;
        q[to] = below / g;
        return 0;
    }

    long against(int a, int b) {
        return !in(a, 0, 7) || !in(b, 0, 7) ? BAD : new long[] {2, 0, 1}[1 + Long.compare(p[a] * q[b], p[b] * q[a])];
    }

    // ---- roads

    /** The shares in rising order; null: SPENT. */
    static List<Long> walk(int road, long above, long below) {
        List<Long> shares;
        switch (road) {
            case 0: shares = greed(above, below, 1); break;
            case 1: shares = greed(above, below, 2); break;
            case 2: shares = cut(above, below); break;
            case 3: shares = middles(above, below); break;
            default: shares = factors(above, below);
        }
        if (shares == null || shares.size() > 16) {
            return null;
        }
        Collections.sort(shares);
        return shares.get(shares.size() - 1) > SPENT_ABOVE ? null : shares;
    }

    private static List<Long> greed(long above, long below, int step) {
        List<Long> shares = new ArrayList<>();
        BigInteger a = BigInteger.valueOf(above);
        BigInteger b = BigInteger.valueOf(below);
        while (a.signum() > 0) {
            BigInteger[] parts = b.divideAndRemainder(a);
            long n = parts[0].add(parts[1].signum() > 0 ? BigInteger.ONE : BigInteger.ZERO).longValueExact();
            if (step == 2 && n % 2 == 0) {
                n++;
            }
            while (shares.contains(n)) {
                n += step;
            }
            shares.add(n);
            BigInteger share = BigInteger.valueOf(n);
            BigInteger common = b.multiply(share).divide(b.gcd(share));
            if (shares.size() > 16 || n > SPENT_ABOVE || common.compareTo(BigInteger.TEN.pow(15)) > 0) {
                return null;
            }
            BigInteger rest = a.multiply(share).subtract(b);
            BigInteger under = b.multiply(share);
            BigInteger g = rest.gcd(under);
            a = rest.divide(g);
            b = under.divide(g);
        }
        return shares;
    }

    private static List<Long> cut(long above, long below) {
        if (above > 16) {
            return null;
        }
        List<Long> shares = new ArrayList<>(Collections.nCopies((int) above, below));
        while (true) {
            Collections.sort(shares);
            Long twin = null;
            for (Long n : shares) {
                if (twin == null && Collections.frequency(shares, n) > 1) {
                    twin = n;
                }
            }
            if (twin == null) {
                return shares;
            }
            BigInteger product = BigInteger.valueOf(twin).multiply(BigInteger.valueOf(twin + 1));
            if (shares.size() == 16 || product.compareTo(BigInteger.valueOf(SPENT_ABOVE)) > 0) {
                return null;
            }
            shares.remove(twin);
            shares.add(twin + 1);
            shares.add(product.longValueExact());
        }
    }

    private static List<Long> middles(long above, long below) {
        List<Long> shares = new ArrayList<>();
        long a = above;
        long b = below;
        while (a > 0) {
            if (shares.size() == 16) {
                return null;
            }
            long s = 1;
            while ((a * s - 1) % b != 0) {
                s++;
            }
            shares.add(b * s);
            a = (a * s - 1) / b;
            b = s;
        }
        return shares;
    }

    private static List<Long> factors(long above, long below) {
        List<Long> shares = new ArrayList<>();
        long rest = above;
        BigInteger product = BigInteger.ONE;
        while (rest > 0) {
            long a = 1 + (below - 1) / rest;
            rest = a * rest - below;
            product = product.multiply(BigInteger.valueOf(a));
            if (shares.size() == 16 || product.compareTo(BigInteger.valueOf(SPENT_ABOVE)) > 0) {
                return null;
            }
            shares.add(product.longValueExact());
        }
        return shares;
    }

    long road(int road, int r) {
        if (!in(road, 0, 4) || !in(r, 0, 7)) {
            return BAD;
        }
        if (!proper(r) || road == 1 && q[r] % 2 == 0) {
            return NO;
        }
        List<Long> shares = walk(road, p[r], q[r]);
        return shares == null ? SPENT : shares.size();
    }

    long share(int road, int r, int i) {
        long many = road(road, r);
        if (i < 0 || many == BAD) {
            return BAD;
        }
        return many < 0 ? many : i < many ? walk(road, p[r], q[r]).get(i) : NONE;
    }

    // ---- all sums

    static List<int[]> allSums(long above, long below, int n, int k) {
        List<int[]> found = new ArrayList<>();
        extend(found, new int[k], 0, above, below, n);
        return found;
    }

    private static void extend(List<int[]> found, int[] row, int size, long above, long below, int n) {
        if (above == 0) {
            found.add(Arrays.copyOf(row, size));
            return;
        }
        for (int next = size == 0 ? 2 : row[size - 1] + 1; next <= n && size < row.length; next++) {
            if ((row.length - size) * below < above * next) {
                return; // the shares that may still come are all too small together
            }
            if (above * next >= below) {
                row[size] = next;
                long left = above * next - below;
                long g = gcd(left, below * next);
                extend(found, row, size + 1, left / g, below * next / g, n);
            }
        }
    }

    long sums(int r, int n, int k) {
        if (!in(r, 0, 7) || !in(n, 2, 60) || !in(k, 1, 6)) {
            return BAD;
        }
        if (!proper(r)) {
            return NO;
        }
        sums = allSums(p[r], q[r], n, k);
        if (sums.size() > 2000) {
            sums = null;
            return SPENT;
        }
        return sums.size();
    }

    long sum(int i, int j) {
        if (i < 0 || j < -1) {
            return BAD;
        }
        if (sums == null) {
            return NO;
        }
        if (i >= sums.size() || j >= sums.get(i).length) {
            return NONE;
        }
        return j == -1 ? sums.get(i).length : sums.get(i)[j];
    }

    long wish(int n, long v) {
        if (!in(n, 1, 8)) {
            return BAD;
        }
        String bytes = "";
        for (int i = 0; i < n; i++) {
            bytes = (char) (v >> 8 * i & 255) + bytes;
        }
        wishes = bytes;
        return n;
    }

    long fault() {
        for (int i = 0; i < wishes.length(); i++) {
            if ("flgseo".indexOf(wishes.charAt(i)) < 0 || wishes.indexOf(wishes.charAt(i)) < i) {
                return i;
            }
        }
        return NONE;
    }

    long best() {
        if (sums == null || fault() != NONE) {
            return NO;
        }
        List<int[]> left = new ArrayList<>(sums);
        for (char letter : wishes.toCharArray()) {
            long most = left.stream().mapToLong(row -> worth(letter, row)).max().orElse(0);
            left.removeIf(row -> worth(letter, row) < most);
        }
        return left.isEmpty() ? NONE : sums.indexOf(left.get(0));
    }

    private static long worth(char letter, int[] row) {
        switch (letter) {
            case 'f': return -row.length;
            case 'l': return -row[row.length - 1];
            case 'g': return row[0];
            case 's': return -Arrays.stream(row).sum();
            case 'e': return Arrays.stream(row).filter(n -> n % 2 == 0).count();
            default: return Arrays.stream(row).filter(n -> n % 2 == 1).count();
        }
    }

    /** Both make the same: so one that goes is two that come just when the numbers unlike are one and two. */
    private static boolean oneCut(int[] one, int[] other) {
        TreeSet<Integer> gone = new TreeSet<>();
        TreeSet<Integer> come = new TreeSet<>();
        Arrays.stream(one).forEach(gone::add);
        Arrays.stream(other).forEach(come::add);
        come.removeIf(gone::remove);
        return gone.size() == 1 && come.size() == 2 || gone.size() == 2 && come.size() == 1;
    }

    long cuts(int i, int j) {
        if (i < 0 || j < 0) {
            return BAD;
        }
        if (sums == null || i >= sums.size() || j >= sums.size()) {
            return NO;
        }
        long[] steps = new long[sums.size()];
        Arrays.fill(steps, NONE);
        steps[i] = 0;
        ArrayDeque<Integer> queue = new ArrayDeque<>(List.of(i));
        while (!queue.isEmpty()) {
            int here = queue.remove();
            for (int there = 0; there < steps.length; there++) {
                if (steps[there] == NONE && oneCut(sums.get(here), sums.get(there))) {
                    steps[there] = steps[here] + 1;
                    queue.add(there);
                }
            }
        }
        return steps[j];
    }

    long beside(int i) {
        if (i < 0) {
            return BAD;
        }
        return sums == null || i >= sums.size() ? NO : sums.stream().filter(row -> oneCut(sums.get(i), row)).count();
    }

    // ---- divisors

    private static List<Integer> divisorsFalling(int n) {
        List<Integer> divisors = new ArrayList<>();
        for (int d = n; d > 0; d--) {
            if (n % d == 0) {
                divisors.add(d);
            }
        }
        return divisors;
    }

    private static boolean canMake(List<Integer> numbers, int wanted) {
        boolean[] can = new boolean[wanted + 1];
        can[0] = true;
        for (int d : numbers) {
            for (int x = wanted; x >= d; x--) {
                can[x] |= can[x - d];
            }
        }
        return can[wanted];
    }

    /** The first choice of so many numbers, the greater ones tried first; null: none. */
    private static List<Integer> choose(List<Integer> falling, int from, int many, int wanted) {
        if (many == 0) {
            return wanted == 0 ? new ArrayList<>() : null;
        }
        for (int i = from; i < falling.size() && (long) falling.get(i) * many >= wanted; i++) {
            if (falling.get(i) <= wanted) {
                List<Integer> rest = choose(falling, i + 1, many - 1, wanted - falling.get(i));
                if (rest != null) {
                    rest.add(0, falling.get(i));
                    return rest;
                }
            }
        }
        return null;
    }

    /** THE DIVISORS of q m that make p m. */
    static long[] divisors(int above, int below, int m) {
        List<Integer> chosen = null;
        for (int many = 1; chosen == null; many++) {
            chosen = choose(divisorsFalling(below * m), 0, many, above * m);
        }
        return chosen.stream().mapToLong(d -> d).toArray();
    }

    long multiple(int r) {
        if (!in(r, 0, 7)) {
            return BAD;
        }
        if (!proper(r)) {
            return NO;
        }
        for (int m = 1; m <= 200; m++) {
            if (q[r] * m > 5000) {
                return SPENT;
            }
            if (canMake(divisorsFalling((int) q[r] * m), (int) p[r] * m)) {
                return m;
            }
        }
        return NONE;
    }

    long divisor(int r, int i) {
        long m = multiple(r);
        if (m == BAD || i < -1) {
            return BAD;
        }
        if (m < 0) {
            return m;
        }
        long[] chosen = divisors((int) p[r], (int) q[r], (int) m);
        return i == -1 ? chosen.length : i < chosen.length ? chosen[i] : NONE;
    }

    static long handy(int n) {
        if (!in(n, 1, 20000)) {
            return BAD;
        }
        List<Integer> divisors = divisorsFalling(n);
        int together = divisors.stream().mapToInt(d -> d).sum();
        boolean[] can = new boolean[together + 1];
        can[0] = true;
        for (int d : divisors) {
            for (int x = together; x >= d; x--) {
                can[x] |= can[x - d];
            }
        }
        for (boolean c : can) {
            if (!c) {
                return 0;
            }
        }
        return 1;
    }

    // ---- pairs, tables

    /** All pairs behind the number given. */
    private static List<long[]> allPairs(long above, long below, long behind) {
        List<long[]> found = new ArrayList<>();
        for (long a = Math.max(behind + 1, below / above + 1); above * a < 2 * below; a++) {
            long left = above * a - below;
            if (below * a % left == 0) {
                found.add(new long[] {a, below * a / left});
            }
        }
        return found;
    }

    long pairs(int r) {
        if (!in(r, 0, 7)) {
            return BAD;
        }
        return !proper(r) || q[r] > 5000 ? NO : allPairs(p[r], q[r], 1).size();
    }

    long pair(int r, int i, int part) {
        long many = pairs(r);
        if (many == BAD || i < 0 || !in(part, 0, 1)) {
            return BAD;
        }
        return many < 0 ? many : i < many ? allPairs(p[r], q[r], 1).get(i)[part] : NONE;
    }

    long threes(int r) {
        if (!in(r, 0, 7)) {
            return BAD;
        }
        if (!proper(r) || q[r] > 300) {
            return NO;
        }
        return allThrees(p[r], q[r]);
    }

    static long allThrees(long above, long below) {
        long many = 0;
        for (long a = below / above + 1; above * a < 3 * below; a++) {
            many += allPairs(above * a - below, below * a, a).size();
        }
        return many;
    }

    static long table(int below, int n, int k, int above) {
        if (!in(below, 2, 60) || !in(n, 2, 40) || !in(k, 1, 4) || !in(above, 0, below - 1)) {
            return BAD;
        }
        if (above > 0) {
            return allSums(above, below, n, k).stream().mapToLong(row -> row.length).min().orElse(NONE);
        }
        long hardest = 0;
        long most = 0;
        for (int x = 1; x < below; x++) {
            long least = table(below, n, k, x);
            if (least == NONE) {
                least = 100;
            }
            if (least > most) {
                most = least;
                hardest = x;
            }
        }
        return hardest;
    }

    static long rising(int n, int part) {
        if (!in(n, 2, 30) || !in(part, 0, 2)) {
            return BAD;
        }
        BigInteger below = BigInteger.ONE;
        for (int i = 2; i <= n; i++) {
            below = below.multiply(BigInteger.valueOf(i));
        }
        BigInteger above = BigInteger.ZERO;
        for (int i = 2; i <= n; i++) {
            above = above.add(below.divide(BigInteger.valueOf(i)));
        }
        BigInteger[] parts = above.divideAndRemainder(below);
        BigInteger g = parts[1].gcd(below);
        return (part == 0 ? parts[0] : part == 1 ? parts[1].divide(g) : below.divide(g)).longValueExact();
    }

    static long firstAbove(int w) {
        return w == 1 ? 4 : w == 2 ? 11 : BAD;
    }

    static long loaves(int road, int above, int below, int what) {
        if (!in(road, 0, 4) || !in(above, 1, 1000) || !in(below, 1, 1000) || above >= below || !in(what, 0, 2)) {
            return BAD;
        }
        long g = gcd(above, below);
        if (road == 1 && below / g % 2 == 0) {
            return NO;
        }
        List<Long> shares = walk(road, above / g, below / g);
        if (shares == null) {
            return SPENT;
        }
        long whole = 0;
        long left = 0;
        for (long n : shares) {
            long cut = below / n + (below % n > 0 ? 1 : 0);
            whole += cut;
            left += cut * n - below;
        }
        return what == 0 ? (long) shares.size() * below : what == 1 ? whole : left;
    }

    long count(int what) {
        switch (what) {
            case 0: return Arrays.stream(p).filter(x -> x != 0).count();
            case 1: return wishes.length();
            case 2: return sums == null ? 0 : sums.size();
            case 3: return sums == null ? 0 : sums.stream().mapToInt(row -> row.length).sum();
            default: return BAD;
        }
    }
}
