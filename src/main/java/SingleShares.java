import java.util.Arrays;

/** Single shares: fractions as sums of unlike shares of one. */
public final class SingleShares {
    public static final int BAD = -1, NO = -2, FULL = -3, NONE = -4, SPENT = -5;

    private static final int REGISTERS = 8;
    private static final int MOST_IN_FRACTION = 1000000;
    private static final int ROADS = 5;
    private static final int ROAD_ODD = 1;
    private static final int MOST_SUMS = 2000;
    private static final int MOST_PAIRS_BELOW = 5000;
    private static final int MOST_THREES_BELOW = 300;
    private static final int MOST_LOAVES = 1000;
    private static final int MOST_RISING = 30;
    private static final int MOST_HANDY = 20000;

    private final int[] above = new int[REGISTERS];
    private final int[] below = new int[REGISTERS];
    private final Roads roads = new Roads();
    private final Finder finder = new Finder();
    private final Family family = new Family();
    private final Wishes wishes = new Wishes();
    private final Divisors divisors = new Divisors();
    private final TwoShares twoShares = new TwoShares();

    public SingleShares() {
        Arrays.fill(below, 1);
    }

    // ---- fractions

    public int hold(int register, int p, int q) {
        if (!isRegister(register) || p < 0 || p > MOST_IN_FRACTION || q < 1 || q > MOST_IN_FRACTION) {
            return BAD;
        }
        return put(register, p, q);
    }

    public int told(int register, int part) {
        if (!isRegister(register) || !isHalf(part)) {
            return BAD;
        }
        return part == 0 ? above[register] : below[register];
    }

    public int reckon(int to, int what, int a, int b) {
        if (!isRegister(to) || what < 0 || what > 3 || !isRegister(a) || !isRegister(b)) {
            return BAD;
        }
        long p = above[a];
        long q = below[a];
        long r = above[b];
        long s = below[b];
        switch (what) {
            case 0:
                return put(to, p * s + r * q, q * s);
            case 1:
                return put(to, p * s - r * q, q * s);
            case 2:
                return put(to, p * r, q * s);
            default:
                return put(to, p * s, q * r);
        }
    }

    public int against(int a, int b) {
        if (!isRegister(a) || !isRegister(b)) {
            return BAD;
        }
        long left = (long) above[a] * below[b];
        long right = (long) above[b] * below[a];
        if (left == right) {
            return 0;
        }
        return left > right ? 1 : 2;
    }

    // ---- roads

    public int road(int road, int register) {
        if (!isRoad(road) || !isRegister(register)) {
            return BAD;
        }
        return follow(road, above[register], below[register]);
    }

    public long share(int road, int register, int i) {
        if (!isRoad(road) || !isRegister(register) || i < 0) {
            return BAD;
        }
        int size = follow(road, above[register], below[register]);
        if (size < 0) {
            return size;
        }
        return i < size ? roads.at(i) : NONE;
    }

    // ---- all sums

    public int sums(int register, int n, int k) {
        if (!isRegister(register) || n < 2 || n > 60 || k < 1 || k > 6) {
            return BAD;
        }
        if (!isProper(register)) {
            return NO;
        }
        finder.prepare(above[register], below[register], n);
        return family.settle(finder.collect(k, family.room()), k);
    }

    public int sum(int i, int j) {
        if (i < 0 || j < -1) {
            return BAD;
        }
        if (!family.isThere()) {
            return NO;
        }
        if (i >= family.size()) {
            return NONE;
        }
        long row = family.at(i);
        if (j == -1) {
            return Long.bitCount(row);
        }
        return j < Long.bitCount(row) ? Row.numberAt(row, j) : NONE;
    }

    public int wish(int n, long v) {
        if (n < 1 || n > 8) {
            return BAD;
        }
        wishes.tell(n, v);
        return n;
    }

    public int fault() {
        return wishes.firstWrong();
    }

    public int best() {
        if (!family.isThere() || wishes.firstWrong() != NONE) {
            return NO;
        }
        return family.size() == 0 ? NONE : wishes.choose(family);
    }

    public int cuts(int i, int j) {
        if (i < 0 || j < 0) {
            return BAD;
        }
        if (!family.isThere() || i >= family.size() || j >= family.size()) {
            return NO;
        }
        return family.fewestSteps(i, j);
    }

    public int beside(int i) {
        if (i < 0) {
            return BAD;
        }
        if (!family.isThere() || i >= family.size()) {
            return NO;
        }
        return family.neighbours(i);
    }

    // ---- divisors

    public int multiple(int register) {
        if (!isRegister(register)) {
            return BAD;
        }
        return isProper(register) ? divisors.factorFor(above[register], below[register]) : NO;
    }

    public int divisor(int register, int i) {
        if (!isRegister(register) || i < -1) {
            return BAD;
        }
        if (!isProper(register)) {
            return NO;
        }
        int factor = divisors.factorFor(above[register], below[register]);
        if (factor < 0) {
            return factor;
        }
        if (i == -1) {
            return divisors.size();
        }
        return i < divisors.size() ? divisors.at(i) : NONE;
    }

    public int handy(int n) {
        if (n < 1 || n > MOST_HANDY) {
            return BAD;
        }
        return isHandy(n) ? 1 : 0;
    }

    // ---- pairs, tables

    public int pairs(int register) {
        if (!isRegister(register)) {
            return BAD;
        }
        if (!isProper(register) || below[register] > MOST_PAIRS_BELOW) {
            return NO;
        }
        return twoShares.list(above[register], below[register]);
    }

    public long pair(int register, int i, int part) {
        if (!isRegister(register) || i < 0 || !isHalf(part)) {
            return BAD;
        }
        if (!isProper(register) || below[register] > MOST_PAIRS_BELOW) {
            return NO;
        }
        if (i >= twoShares.list(above[register], below[register])) {
            return NONE;
        }
        return part == 0 ? twoShares.lesser(i) : twoShares.greater(i);
    }

    public int threes(int register) {
        if (!isRegister(register)) {
            return BAD;
        }
        if (!isProper(register) || below[register] > MOST_THREES_BELOW) {
            return NO;
        }
        return twoShares.countThrees(above[register], below[register]);
    }

    public int table(int q, int n, int k, int p) {
        if (q < 2 || q > 60 || n < 2 || n > 40 || k < 1 || k > 4 || p < 0 || p >= q) {
            return BAD;
        }
        if (p > 0) {
            return fewest(p, q, n, k);
        }
        int hardest = 1;
        int most = 0;
        for (int i = 1; i < q; i++) {
            int least = fewest(i, q, n, k);
            if (least == NONE) {
                // None later can be harder, and of several the least p counts.
                return i;
            }
            if (least > most) {
                most = least;
                hardest = i;
            }
        }
        return hardest;
    }

    public long rising(int n, int part) {
        if (n < 2 || n > MOST_RISING || part < 0 || part > 2) {
            return BAD;
        }
        long p = 0;
        long q = 1;
        for (int i = 2; i <= n; i++) {
            p = p * i + q;
            q = q * i;
            long common = commonDivisor(p, q);
            p /= common;
            q /= common;
        }
        if (part == 0) {
            return p / q;
        }
        return part == 1 ? p % q : q;
    }

    public int firstAbove(int w) {
        if (w < 1 || w > 2) {
            return BAD;
        }
        for (int n = 2; n < MOST_RISING; n++) {
            if (rising(n, 0) >= w) {
                return n;
            }
        }
        return MOST_RISING;
    }

    public long loaves(int road, int p, int q, int what) {
        if (!isRoad(road) || p < 1 || q > MOST_LOAVES || p >= q || what < 0 || what > 2) {
            return BAD;
        }
        int common = (int) commonDivisor(p, q);
        int size = follow(road, p / common, q / common);
        if (size < 0) {
            return size;
        }
        if (what == 0) {
            return (long) size * q;
        }
        return what == 1 ? wholeLoaves(size, q) : piecesLeft(size, q);
    }

    public int count(int what) {
        switch (what) {
            case 0:
                return registersHeld();
            case 1:
                return wishes.size();
            case 2:
                return family.size();
            case 3:
                return family.countShares();
            default:
                return BAD;
        }
    }

    // ---- behind the face

    private static boolean isRegister(int register) {
        return register >= 0 && register < REGISTERS;
    }

    private static boolean isRoad(int road) {
        return road >= 0 && road < ROADS;
    }

    private static boolean isHalf(int part) {
        return part == 0 || part == 1;
    }

    private boolean isProper(int register) {
        return isRegister(register) && above[register] > 0 && above[register] < below[register];
    }

    private int put(int register, long p, long q) {
        if (p < 0 || q <= 0) {
            return NO;
        }
        long common = commonDivisor(p, q);
        if (p / common > MOST_IN_FRACTION || q / common > MOST_IN_FRACTION) {
            return SPENT;
        }
        if (isRegister(register)) {
            above[register] = (int) (p / common);
            below[register] = (int) (q / common);
        }
        return 0;
    }

    private int registersHeld() {
        int held = 0;
        for (int i = 0; i < above.length; i++) {
            if (above[i] != 0) {
                held++;
            }
        }
        return held;
    }

    private int follow(int road, int p, int q) {
        if (p <= 0 || p >= q || road == ROAD_ODD && q % 2 == 0) {
            return NO;
        }
        return roads.walk(road, p, q);
    }

    private long wholeLoaves(int size, int people) {
        long together = 0;
        for (int i = 0; i < size; i++) {
            together += roundedUp(people, roads.at(i));
        }
        return together;
    }

    private long piecesLeft(int size, int people) {
        long together = 0;
        for (int i = 0; i < size; i++) {
            long share = roads.at(i);
            together += roundedUp(people, share) * share - people;
        }
        return together;
    }

    private int fewest(int p, int q, int n, int k) {
        int common = (int) commonDivisor(p, q);
        finder.prepare(p / common, q / common, n);
        return finder.fewestShares(k);
    }

    /**
     * The divisors of n reach every number up to their sum just when each prime, in rising order,
     * is at most one above the sum of the divisors made of the primes ahead of it (Stewart).
     */
    private static boolean isHandy(int n) {
        int rest = n;
        int reach = 1;
        for (int prime = 2; prime <= rest / prime; prime++) {
            if (rest % prime != 0) {
                continue;
            }
            if (prime > reach + 1) {
                return false;
            }
            int powers = 1;
            for (int i = 0; i < 31 && rest % prime == 0; i++) {
                rest /= prime;
                powers = powers * prime + 1;
            }
            reach *= powers;
        }
        return rest <= reach + 1;
    }

    /** At least 1, so that it may always divide. */
    private static long commonDivisor(long a, long b) {
        long x = a;
        long y = b;
        for (int i = 0; i < 100 && y != 0; i++) {
            long rest = x % y;
            x = y;
            y = rest;
        }
        return Math.max(1, x);
    }

    private static long roundedUp(long a, long b) {
        return b < 1 ? 0 : (a + b - 1) / b;
    }

    /** The number below modulus (2 or more) that times a leaves 1; a is prime to modulus. */
    private static long inverse(long a, long modulus) {
        if (modulus < 1) {
            return 0;
        }
        long x = a % modulus;
        long y = modulus;
        long forX = 1;
        long forY = 0;
        for (int i = 0; i < 100 && x > 0; i++) {
            long times = y / x;
            long rest = y - times * x;
            long forRest = forY - times * forX;
            y = x;
            forY = forX;
            x = rest;
            forX = forRest;
        }
        return Math.floorMod(forY, modulus);
    }

    /** The five roads; the shares of the road walked last stay in rising order. */
    private static final class Roads {
        private static final int MOST_SHARES = 16;
        private static final long GREATEST_SHARE = 1000000000000L;
        private static final long GREATEST_COMMON = 1000000000000000L;

        private final long[] shares = new long[MOST_SHARES];
        private int size;

        int walk(int road, long p, long q) {
            size = 0;
            if (!reachesEnd(road, p, q)) {
                return SPENT;
            }
            putInOrder();
            return size;
        }

        long at(int i) {
            return i >= 0 && i < size && i < shares.length ? shares[i] : 0;
        }

        private boolean reachesEnd(int road, long p, long q) {
            switch (road) {
                case 0:
                    return byGreed(p, q, false);
                case 1:
                    return byGreed(p, q, true);
                case 2:
                    return byCutting(p, q);
                case 3:
                    return byMiddles(p, q);
                default:
                    return byFactors(p, q);
            }
        }

        private boolean add(long share) {
            if (size < 0 || size >= shares.length || share > GREATEST_SHARE) {
                return false;
            }
            shares[size] = share;
            size++;
            return true;
        }

        private boolean byGreed(long p, long q, boolean odd) {
            long rest = p;
            long under = q;
            long last = 1;
            for (int i = 0; i < MOST_SHARES && rest > 0; i++) {
                // The rest only falls: whatever is not yet taken and small enough lies behind the last.
                long next = Math.max(roundedUp(under, rest), last + 1);
                if (odd && next % 2 == 0) {
                    next++;
                }
                if (next < 2 || !add(next)) {
                    return false;
                }
                long part = under / commonDivisor(under, next);
                if (under < 1 || part > GREATEST_COMMON / next) {
                    return false;
                }
                long common = part * next;
                long left = rest * (common / under) - part;
                long shrink = commonDivisor(left, common);
                rest = left / shrink;
                under = common / shrink;
                last = next;
            }
            return rest == 0;
        }

        private boolean byCutting(long p, long q) {
            if (p > MOST_SHARES) {
                return false;
            }
            for (int i = 0; i < p; i++) {
                if (!add(q)) {
                    return false;
                }
            }
            for (int i = 0; i <= MOST_SHARES; i++) {
                int twin = leastTwin();
                if (twin < 0 || twin >= shares.length) {
                    return true;
                }
                long n = shares[twin];
                if (n < 1 || n + 1 > GREATEST_SHARE / n || !add(n * (n + 1))) {
                    return false;
                }
                shares[twin] = n + 1;
            }
            return false;
        }

        /** A place of the least number that stands there more than once; -1: there is none. */
        private int leastTwin() {
            putInOrder();
            for (int i = 1; i < size && i < shares.length; i++) {
                if (shares[i - 1] == shares[i]) {
                    return i;
                }
            }
            return -1;
        }

        private boolean byMiddles(long p, long q) {
            long rest = p;
            long under = q;
            for (int i = 0; i < MOST_SHARES && rest > 0 && under > 0; i++) {
                long nextUnder = inverse(rest, under);
                if (!add(under * nextUnder)) {
                    return false;
                }
                rest = (rest * nextUnder - 1) / under;
                under = nextUnder;
            }
            return rest == 0;
        }

        private boolean byFactors(long p, long q) {
            long rest = p;
            long product = 1;
            for (int i = 0; i < MOST_SHARES && rest > 0; i++) {
                long factor = roundedUp(q, rest);
                if (product < 1 || factor > GREATEST_SHARE / product) {
                    return false;
                }
                product *= factor;
                if (!add(product)) {
                    return false;
                }
                rest = factor * rest - q;
            }
            return rest == 0;
        }

        private void putInOrder() {
            for (int i = 1; i < size && i < shares.length; i++) {
                long share = shares[i];
                int place = i;
                while (place > 0 && shares[place - 1] > share) {
                    shares[place] = shares[place - 1];
                    place--;
                }
                shares[place] = share;
            }
        }
    }

    /**
     * A SUM of shares 2 to 60 as one long: the bit of a lesser number is the higher one, so that
     * the order of SUMS is that of falling longs.
     */
    private static final class Row {
        private static final int LEAST_NUMBER = 2;
        private static final int GREATEST_NUMBER = 60;
        private static final int TOP_BIT = 62;
        private static final long EVEN_NUMBERS = 0x5555555555555555L;

        static long bit(int number) {
            return number < LEAST_NUMBER || number > GREATEST_NUMBER ? 0 : 1L << (TOP_BIT - number);
        }

        static int numberAt(long row, int place) {
            int passed = 0;
            for (int number = LEAST_NUMBER; number <= GREATEST_NUMBER; number++) {
                if ((row & bit(number)) != 0) {
                    if (passed == place) {
                        return number;
                    }
                    passed++;
                }
            }
            return 0;
        }

        static int total(long row) {
            int total = 0;
            for (int number = LEAST_NUMBER; number <= GREATEST_NUMBER; number++) {
                if ((row & bit(number)) != 0) {
                    total += number;
                }
            }
            return total;
        }
    }

    /**
     * Finds the SUMS that make a fraction. Shares are weighed in parts of one common number below,
     * so that the search only adds and compares; numbers that no SUM can hold are left out first,
     * which keeps that common number small.
     */
    private static final class Finder {
        private static final int[] PRIMES_FALLING = {59, 53, 47, 43, 41, 37, 31, 29, 23, 19, 17, 13, 11, 7, 5, 3, 2};
        private static final int MOST_TRIED = 5;
        private static final long MOST_PARTS = 10000000000000000L;

        private final int[] tried = new int[MOST_TRIED];
        private final long[] triedLeave = new long[MOST_TRIED];
        private final int[] numbers = new int[Row.GREATEST_NUMBER];
        private final long[] weights = new long[Row.GREATEST_NUMBER];
        private final long[] weightsAhead = new long[Row.GREATEST_NUMBER + 1];
        private final long[] grains = new long[Row.GREATEST_NUMBER + 1];
        private final int[] placeFrom = new int[Row.GREATEST_NUMBER + 1];
        private final long[] first = new long[1];
        private long barred;
        private int limit;
        private int size;
        private long parts;
        private long wanted;
        private int found;

        /** For p by q in lowest terms and shares up to n. */
        void prepare(int p, int q, int n) {
            limit = Math.min(n, Row.GREATEST_NUMBER);
            size = 0;
            wanted = 0;
            barred = 0;
            if (leaveOutHopeless(p, q) && findParts() && q > 0 && parts % q == 0) {
                wanted = parts / q * p;
                weigh();
            }
        }

        /** Puts the SUMS of at most k shares into rows, in order, till these are full: how many. */
        int collect(int k, long[] rows) {
            found = 0;
            if (wanted > 0) {
                extend(this, rows, k, 0, wanted, 0);
            }
            return found;
        }

        int fewestShares(int k) {
            for (int most = 1; most <= k; most++) {
                if (collect(most, first) > 0) {
                    return most;
                }
            }
            return NONE;
        }

        /** False: no SUM makes the fraction. */
        private boolean leaveOutHopeless(int p, int q) {
            int rest = q;
            for (int i = 0; i < PRIMES_FALLING.length; i++) {
                int prime = PRIMES_FALLING[i];
                if (prime <= limit) {
                    int held = powerIn(q, prime);
                    rest /= held;
                    if (!leaveOutMultiples(prime, held, p, q / held)) {
                        return false;
                    }
                }
            }
            return rest == 1;
        }

        /** The greatest power of the prime that divides q; 1 at least. */
        private static int powerIn(int q, int prime) {
            int rest = q;
            int power = 1;
            for (int i = 0; i < 31 && rest > 0 && prime > 1 && rest % prime == 0; i++) {
                rest /= prime;
                power *= prime;
            }
            return power;
        }

        /**
         * Only multiples of a power of a prime can bring that power below, so they must cancel it
         * among themselves, or leave just what the fraction holds of it: multiples that are in no
         * such choice are barred. The fraction is p by held times other.
         */
        private boolean leaveOutMultiples(int prime, int held, int p, int other) {
            int power = 1;
            while (prime > 1 && power <= limit / prime) {
                power *= prime;
            }
            if (held > power) {
                return false;
            }
            for (; prime > 1 && power > 1; power /= prime) {
                int many = gather(power, prime);
                if (many > MOST_TRIED) {
                    return true;
                }
                long due = power == held ? p % prime * inverse(other, prime) % prime : 0;
                int useful = usefulOf(many, prime, due);
                bar(many, useful);
                if (useful != 0 || power == held) {
                    return useful != 0;
                }
            }
            return true;
        }

        /** Tries the multiples not yet barred: how many there are (more: MOST_TRIED + 1). */
        private int gather(int power, int prime) {
            int many = 0;
            for (int times = 1; power > 0 && times <= limit / power; times++) {
                if (!isBarred(times * power)) {
                    if (many >= MOST_TRIED) {
                        return MOST_TRIED + 1;
                    }
                    tried[many] = times * power;
                    triedLeave[many] = inverse(times, prime);
                    many++;
                }
            }
            return many;
        }

        /** The numbers tried, as bits, that are in a choice which leaves what is due. */
        private int usefulOf(int many, int prime, long due) {
            int useful = 0;
            for (int choice = 1; prime > 0 && choice < 1 << many; choice++) {
                long leave = 0;
                for (int i = 0; i < many && i < MOST_TRIED; i++) {
                    if ((choice >> i & 1) != 0) {
                        leave += triedLeave[i];
                    }
                }
                if (leave % prime == due) {
                    useful |= choice;
                }
            }
            return useful;
        }

        private void bar(int many, int useful) {
            for (int i = 0; i < many && i < MOST_TRIED; i++) {
                if ((useful >> i & 1) == 0) {
                    barred |= Row.bit(tried[i]);
                }
            }
        }

        private boolean isBarred(int number) {
            return (barred & Row.bit(number)) != 0;
        }

        private boolean findParts() {
            parts = 1;
            for (int number = Row.LEAST_NUMBER; number <= limit; number++) {
                if (!isBarred(number)) {
                    parts *= number / commonDivisor(parts, number);
                }
                if (parts > MOST_PARTS) {
                    return false;
                }
            }
            return true;
        }

        private void weigh() {
            for (int number = Row.LEAST_NUMBER; number <= limit; number++) {
                placeFrom[number] = size;
                if (!isBarred(number)) {
                    numbers[size] = number;
                    weights[size] = parts / number;
                    weightsAhead[size + 1] = weightsAhead[size] + weights[size];
                    size++;
                }
            }
            grains[size] = 0;
            for (int i = size - 1; i >= 0; i--) {
                grains[i] = commonDivisor(grains[i + 1], weights[i]);
            }
        }

        private static void extend(Finder f, long[] rows, int slots, int from, long rest, long row) {
            if (slots <= 1) {
                f.endWith(rows, from, rest, row);
                return;
            }
            for (int i = Math.max(from, f.firstNotAbove(rest)); i < f.size && f.found < rows.length; i++) {
                if (!f.canMake(i, slots, rest)) {
                    return;
                }
                long longer = row | Row.bit(f.numbers[i]);
                long left = rest - f.weights[i];
                if (left == 0) {
                    f.keep(rows, longer);
                } else {
                    extend(f, rows, slots - 1, i + 1, left, longer);
                }
            }
        }

        private int firstNotAbove(long rest) {
            long number = roundedUp(parts, rest);
            return number >= 0 && number <= limit && number < placeFrom.length ? placeFrom[(int) number] : size;
        }

        private boolean canMake(int from, int slots, long rest) {
            int end = Math.min(from + slots, size);
            return weightsAhead[end] - weightsAhead[from] >= rest && rest % grains[from] == 0;
        }

        private void endWith(long[] rows, int from, long rest, long row) {
            if (rest <= 0 || parts % rest != 0) {
                return;
            }
            int place = firstNotAbove(rest);
            if (place >= from && place < size && weights[place] == rest) {
                keep(rows, row | Row.bit(numbers[place]));
            }
        }

        private void keep(long[] rows, long row) {
            if (found >= 0 && found < rows.length) {
                rows[found] = row;
                found++;
            }
        }
    }

    /** ALL SUMS asked latest, and the cuts that lead from one of them to another. */
    private static final class Family {
        private static final int MOST_SWAPS = 31;

        // One more than may be, to see that there are more.
        private final long[] rows = new long[MOST_SUMS + 1];
        private final long[] ones = new long[MOST_SWAPS];
        private final long[] twos = new long[MOST_SWAPS];
        private final int[] distances = new int[MOST_SUMS];
        private final int[] reached = new int[MOST_SUMS];
        private int swaps;
        private boolean there;
        private int size;
        private int mostShares;
        private int source = -1;
        private int looked;
        private int ends;

        Family() {
            for (int one = Row.LEAST_NUMBER; one < Row.GREATEST_NUMBER; one++) {
                // 1 by n is 1 by n + d and 1 by n + n n / d, for each d below n that divides n n.
                for (int d = 1; d < one; d++) {
                    int greater = one + one * one / d;
                    if (one * one % d == 0 && greater <= Row.GREATEST_NUMBER && swaps < MOST_SWAPS) {
                        ones[swaps] = Row.bit(one);
                        twos[swaps] = Row.bit(one + d) | Row.bit(greater);
                        swaps++;
                    }
                }
            }
        }

        long[] room() {
            return rows;
        }

        int settle(int found, int k) {
            there = found <= MOST_SUMS;
            size = there ? found : 0;
            mostShares = k;
            source = -1;
            return there ? size : SPENT;
        }

        boolean isThere() {
            return there;
        }

        int size() {
            return size;
        }

        long at(int i) {
            return i >= 0 && i < rows.length ? rows[i] : 0;
        }

        int countShares() {
            int together = 0;
            for (int i = 0; i < size; i++) {
                together += Long.bitCount(at(i));
            }
            return together;
        }

        int neighbours(int i) {
            int many = 0;
            for (int swap = 0; swap < swaps; swap++) {
                if (across(at(i), swap) >= 0) {
                    many++;
                }
            }
            return many;
        }

        int fewestSteps(int i, int j) {
            if (i < 0 || i >= size || j < 0 || j >= size) {
                return NONE;
            }
            if (i != source) {
                setOut(i);
            }
            for (; distances[j] < 0 && looked < ends && looked < reached.length; looked++) {
                lookAround(reached[looked]);
            }
            return distances[j] < 0 ? NONE : distances[j];
        }

        private void setOut(int i) {
            Arrays.fill(distances, -1);
            source = i;
            looked = 0;
            ends = 0;
            reach(i, 0);
        }

        private void reach(int i, int distance) {
            if (i >= 0 && i < distances.length && ends < reached.length && distances[i] < 0) {
                distances[i] = distance;
                reached[ends] = i;
                ends++;
            }
        }

        private void lookAround(int i) {
            for (int swap = 0; swap < swaps; swap++) {
                int other = across(at(i), swap);
                if (other >= 0) {
                    reach(other, distances[i] + 1);
                }
            }
        }

        /** Which SUM the swap leads to, by a cut or the other way about; -1: none. */
        private int across(long row, int swap) {
            long both = ones[swap] | twos[swap];
            long touched = row & both;
            if (touched != ones[swap] && touched != twos[swap]) {
                return -1;
            }
            long other = row ^ both;
            return Long.bitCount(other) > mostShares ? -1 : placeOf(other);
        }

        private int placeOf(long row) {
            int low = 0;
            int high = size - 1;
            for (int tries = 0; tries < 32 && low <= high; tries++) {
                int middle = (low + high) / 2;
                if (rows[middle] == row) {
                    return middle;
                }
                if (rows[middle] > row) {
                    low = middle + 1;
                } else {
                    high = middle - 1;
                }
            }
            return -1;
        }
    }

    /** The wishes told latest, by which one SUM is better than another. */
    private static final class Wishes {
        private static final int MOST_LETTERS = 8;

        private final int[] letters = new int[MOST_LETTERS];
        private int size;
        private int wrong = NONE;

        void tell(int n, long v) {
            size = Math.max(0, Math.min(n, MOST_LETTERS));
            for (int i = 0; i < size; i++) {
                letters[i] = (int) (v >>> 8 * (size - 1 - i) & 255);
            }
            wrong = findWrong();
        }

        int size() {
            return size;
        }

        int firstWrong() {
            return wrong;
        }

        int choose(Family family) {
            int chosen = 0;
            for (int i = 1; i < family.size(); i++) {
                if (isBetter(family.at(i), family.at(chosen))) {
                    chosen = i;
                }
            }
            return chosen;
        }

        private int findWrong() {
            for (int i = 0; i < size; i++) {
                if (!isWish(letters[i])) {
                    return i;
                }
                for (int j = 0; j < i; j++) {
                    if (letters[j] == letters[i]) {
                        return i;
                    }
                }
            }
            return NONE;
        }

        private static boolean isWish(int letter) {
            return letter == 'f' || letter == 'l' || letter == 'g' || letter == 's' || letter == 'e' || letter == 'o';
        }

        private boolean isBetter(long row, long than) {
            for (int i = 0; i < size; i++) {
                int worth = worth(letters[i], row);
                int worthThan = worth(letters[i], than);
                if (worth != worthThan) {
                    return worth > worthThan;
                }
            }
            return false;
        }

        private static int worth(int letter, long row) {
            switch (letter) {
                case 'f':
                    return -Long.bitCount(row);
                case 'l':
                    return -Row.numberAt(row, Long.bitCount(row) - 1);
                case 'g':
                    return Row.numberAt(row, 0);
                case 's':
                    return -Row.total(row);
                case 'e':
                    return Long.bitCount(row & Row.EVEN_NUMBERS);
                default:
                    return Long.bitCount(row & ~Row.EVEN_NUMBERS);
            }
        }
    }

    /** The least multiple of a number below whose divisors make the fraction; the latest stays. */
    private static final class Divisors {
        private static final int MOST_FACTOR = 200;
        private static final int MOST_NUMBER = 5000;
        private static final int MOST_DIVISORS = 48;
        private static final int UNREACHED = 1000;

        private final int[] divisors = new int[MOST_DIVISORS];
        private final long[] reachable = new long[MOST_NUMBER / 64 + 1];
        private final int[] fewest = new int[MOST_NUMBER + 1];
        private final long[] takes = new long[MOST_NUMBER + 1];
        private final int[] chosen = new int[MOST_DIVISORS];
        private int divisorsSize;
        private int size;
        private int askedP;
        private int askedQ;
        private int factor;

        /** m, NONE or SPENT. */
        int factorFor(int p, int q) {
            if (p != askedP || q != askedQ) {
                askedP = p;
                askedQ = q;
                size = 0;
                factor = findFactor(p, q);
            }
            return factor;
        }

        int size() {
            return size;
        }

        int at(int i) {
            return i >= 0 && i < size && i < chosen.length ? chosen[i] : 0;
        }

        private int findFactor(int p, int q) {
            for (int m = 1; m <= MOST_FACTOR; m++) {
                if (q > MOST_NUMBER / m) {
                    return SPENT;
                }
                listDivisors(q * m, p * m);
                if (canMake(p * m)) {
                    choose(p * m);
                    return m;
                }
            }
            return NONE;
        }

        /** In rising order, those up to most: a greater one is in no sum. */
        private void listDivisors(int number, int most) {
            divisorsSize = 0;
            int root = 0;
            for (int d = 1; d <= number / d; d++) {
                root = d;
                if (number % d == 0) {
                    addDivisor(d, most);
                }
            }
            for (int d = root; d > 0; d--) {
                if (number % d == 0 && number / d > root) {
                    addDivisor(number / d, most);
                }
            }
        }

        private void addDivisor(int d, int most) {
            if (d <= most && divisorsSize < divisors.length) {
                divisors[divisorsSize] = d;
                divisorsSize++;
            }
        }

        private boolean canMake(int wanted) {
            int together = 0;
            for (int i = 0; i < divisorsSize; i++) {
                together += divisors[i];
            }
            if (together < wanted || wanted < 0 || wanted > MOST_NUMBER) {
                return false;
            }
            int lastWord = wanted / 64;
            Arrays.fill(reachable, 0);
            reachable[0] = 1;
            for (int i = 0; i < divisorsSize; i++) {
                addShifted(divisors[i], lastWord);
            }
            return (reachable[lastWord] >>> wanted % 64 & 1) != 0;
        }

        /** From the highest word down, so that a divisor is not added to itself. */
        private void addShifted(int d, int lastWord) {
            int words = d / 64;
            int bits = d % 64;
            for (int i = lastWord; i >= words; i--) {
                long moved = reachable[i - words] << bits;
                if (bits > 0 && i > words) {
                    moved |= reachable[i - words - 1] >>> 64 - bits;
                }
                reachable[i] |= moved;
            }
        }

        /** Notes for each number which divisors, as the greatest of their sum, make it by the fewest. */
        private void choose(int wanted) {
            Arrays.fill(fewest, UNREACHED);
            Arrays.fill(takes, 0);
            fewest[0] = 0;
            for (int i = 0; i < divisorsSize; i++) {
                int d = divisors[i];
                for (int number = wanted; number >= d; number--) {
                    int many = fewest[number - d] + 1;
                    if (many <= fewest[number] && many < UNREACHED) {
                        fewest[number] = many;
                        takes[number] |= 1L << i;
                    }
                }
            }
            readChosen(wanted);
        }

        private void readChosen(int wanted) {
            int rest = wanted;
            for (int i = divisorsSize - 1; i >= 0 && rest > 0; i--) {
                if ((takes[rest] >>> i & 1) != 0) {
                    chosen[size] = divisors[i];
                    size++;
                    rest -= divisors[i];
                }
            }
        }
    }

    /** Pairs of shares, however great, that make a fraction; those listed last stay. */
    private static final class TwoShares {
        private static final int MOST_PAIRS = 202;
        private static final int MOST_DIVISORS = 1100;

        private final int[] lesser = new int[MOST_PAIRS];
        private final int[] divisors = new int[MOST_DIVISORS];
        private int divisorsSize;
        private int size;
        private int listedP;
        private int listedQ;

        int list(int p, int q) {
            if (p != listedP || q != listedQ) {
                listedP = p;
                listedQ = q;
                size = 0;
                findPairs(p, q);
            }
            return size;
        }

        long lesser(int i) {
            return i >= 0 && i < size && i < lesser.length ? lesser[i] : 0;
        }

        long greater(int i) {
            long a = lesser(i);
            long over = listedP * a - listedQ;
            return over > 0 ? listedQ * a / over : 0;
        }

        private void findPairs(int p, int q) {
            if (p < 1) {
                return;
            }
            // a is the lesser one just when its share is more than half of the fraction.
            for (int a = q / p + 1; p * a < 2 * q; a++) {
                if (q * a % (p * a - q) == 0 && size < lesser.length) {
                    lesser[size] = a;
                    size++;
                }
            }
        }

        int countThrees(int p, int q) {
            if (p < 1) {
                return 0;
            }
            int many = 0;
            for (int a = q / p + 1; p * a < 3 * q; a++) {
                int left = p * a - q;
                int common = (int) commonDivisor(left, q * a);
                many += countPairsBehind(a, left / common, q * a / common);
            }
            return many;
        }

        /**
         * 1 by b and 1 by c make p by q just when (p b - q) (p c - q) is q q: each divisor of q q
         * below q that with q together p divides gives one pair.
         */
        private int countPairsBehind(int a, int p, int q) {
            listSquareDivisors(q);
            int many = 0;
            for (int i = 0; i < divisorsSize; i++) {
                int d = divisors[i];
                if (d > p * a - q && p > 0 && (d + q) % p == 0) {
                    many++;
                }
            }
            return many;
        }

        /** The divisors of q q that are below q, in no order. */
        private void listSquareDivisors(int q) {
            divisorsSize = 0;
            addDivisor(1, q);
            int rest = q;
            for (int prime = 2; prime <= rest / prime; prime++) {
                int powers = 0;
                for (int i = 0; i < 31 && rest % prime == 0; i++) {
                    rest /= prime;
                    powers += 2;
                }
                multiplyDivisors(prime, powers, q);
            }
            if (rest > 1) {
                multiplyDivisors(rest, 2, q);
            }
        }

        private void multiplyDivisors(int prime, int powers, int q) {
            int begin = 0;
            for (int i = 0; i < powers; i++) {
                int end = divisorsSize;
                for (int j = begin; j < end; j++) {
                    addDivisor((long) divisors[j] * prime, q);
                }
                begin = end;
            }
        }

        private void addDivisor(long d, int q) {
            if (d < q && divisorsSize < divisors.length) {
                divisors[divisorsSize] = (int) d;
                divisorsSize++;
            }
        }
    }
}
