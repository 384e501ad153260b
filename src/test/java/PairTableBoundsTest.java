/** The bounds of part 5 of the terms (pairs, threes, tables, rising) and of promises 18 to 23. */
public final class PairTableBoundsTest {
    private static final Checks checks = new Checks();

    public static void main(String[] args) {
        registersAre0To7();
        above0AndBelow1();
        qUpTo5000();
        qUpTo300();
        placesOfPairs();
        partsOfPairs();
        badComesFirst();
        noPairIsAlike();
        howeverGreat();
        asHeldNow();
        tableQIs2To60();
        tableNIs2To40();
        tableKIs1To4();
        tablePIs0ToQLess1();
        tableNoneAboveN();
        tableAtMostK();
        tableAsItStands();
        hardest();
        tableLeavesAllSums();
        risingIs2To30();
        risingParts();
        risingInLowestTerms();
        firstAboveIs1To2();
        checks.end();
    }

    private static void registersAre0To7() {
        SingleShares x = Use.holding(2, 3);
        x.hold(7, 1, 2);
        for (int register : new int[] {-1, 8, Use.LOWEST, Use.HIGHEST}) {
            checks.due("pairs of " + register, x.pairs(register), Use.BAD);
            checks.due("pair of " + register, x.pair(register, 0, 0), Use.BAD);
            checks.due("threes of " + register, x.threes(register), Use.BAD);
        }
        checks.due("pairs of 0", x.pairs(0), 1);
        checks.due("pairs of 7", x.pairs(7), 1);
        checks.due("pair of 0", x.pair(0, 0, 0), 2);
        checks.due("pair of 7", x.pair(7, 0, 0), 3);
        checks.due("threes of 7", x.threes(7), 6);
    }

    private static void above0AndBelow1() {
        int[][] no = {{0, 1}, {1, 1}, {1000000, 999999}, {3, 2}, {5, 4}, {2, 1}};
        for (int[] n : no) {
            SingleShares x = Use.holding(n[0], n[1]);
            String name = " of " + n[0] + " by " + n[1];
            checks.due("pairs" + name, x.pairs(0), Use.NO);
            checks.due("pair" + name, x.pair(0, 0, 0), Use.NO);
            checks.due("pair far behind" + name, x.pair(0, Use.HIGHEST, 1), Use.NO);
            checks.due("threes" + name, x.threes(0), Use.NO);
        }
        checks.due("4999 by 5000", Use.holding(4999, 5000).pairs(0), 0);
        checks.due("299 by 300", Use.holding(299, 300).threes(0), 0);
    }

    private static void qUpTo5000() {
        SingleShares x = Use.holding(1, 5000);
        x.hold(1, 1, 5001);
        x.hold(2, 5000, 5001);
        x.hold(3, 2, 10000);
        x.hold(4, 1, 1000000);
        checks.due("q 5000", x.pairs(0), 31);
        checks.due("q 5000", x.pair(0, 0, 0), 5001);
        checks.due("q 5000", x.pair(0, 30, 1), 11250);
        for (int register : new int[] {1, 2, 4}) {
            checks.due("q above 5000", x.pairs(register), Use.NO);
            checks.due("q above 5000", x.pair(register, 0, 0), Use.NO);
            checks.due("q above 5000, far behind", x.pair(register, 99, 0), Use.NO);
        }
        checks.due("2 by 10000 is 1 by 5000", x.pairs(3), 31);
        checks.due("2 by 10000 is 1 by 5000", x.pair(3, 0, 0), 5001);
    }

    private static void qUpTo300() {
        checks.due("q 300", Use.holding(1, 300).threes(0), 4980);
        checks.due("q 299", Use.holding(1, 299).threes(0), Plain.allThrees(1, 299));
        checks.due("q 301", Use.holding(1, 301).threes(0), Use.NO);
        checks.due("q 5000", Use.holding(1, 5000).threes(0), Use.NO);
        checks.due("q 1000000", Use.holding(999999, 1000000).threes(0), Use.NO);
        checks.due("2 by 600 is 1 by 300", Use.holding(2, 600).threes(0), 4980);
        checks.due("pairs go on", Use.holding(1, 301).pairs(0), 4);
    }

    private static void placesOfPairs() {
        SingleShares x = Use.holding(1, 6);
        long[][] due = {{7, 42}, {8, 24}, {9, 18}, {10, 15}};
        checks.due("1 by 6", x.pairs(0), 4);
        for (int i = 0; i < due.length; i++) {
            checks.due("a of " + i, x.pair(0, i, 0), due[i][0]);
            checks.due("b of " + i, x.pair(0, i, 1), due[i][1]);
        }
        checks.due("-1", x.pair(0, -1, 0), Use.BAD);
        checks.due("lowest", x.pair(0, Use.LOWEST, 0), Use.BAD);
        checks.due("behind the last", x.pair(0, 4, 0), Use.NONE);
        checks.due("behind the last", x.pair(0, 4, 1), Use.NONE);
        checks.due("highest", x.pair(0, Use.HIGHEST, 0), Use.NONE);
        SingleShares none = Use.holding(4, 5);
        checks.due("there is none", none.pairs(0), 0);
        checks.due("there is none", none.pair(0, 0, 0), Use.NONE);
        checks.due("there is none", none.pair(0, 0, 1), Use.NONE);
        checks.due("there is none", none.pair(0, -1, 1), Use.BAD);
        SingleShares most = Use.holding(1, 4620);
        checks.due("the most there are", most.pairs(0), 202);
        checks.due("the last of them", most.pair(0, 201, 0), 9030);
        checks.due("behind it", most.pair(0, 202, 0), Use.NONE);
    }

    private static void partsOfPairs() {
        SingleShares x = Use.holding(2, 3);
        for (int part : new int[] {-1, 2, Use.LOWEST, Use.HIGHEST}) {
            checks.due("part " + part, x.pair(0, 0, part), Use.BAD);
        }
        checks.due("part 0", x.pair(0, 0, 0), 2);
        checks.due("part 1", x.pair(0, 0, 1), 6);
    }

    private static void badComesFirst() {
        SingleShares x = Use.holding(1, 5001);
        checks.due("NO by q, but i", x.pair(0, -1, 0), Use.BAD);
        checks.due("NO by q, but part", x.pair(0, 0, 2), Use.BAD);
        checks.due("NO for 0, but i", x.pair(1, -1, 0), Use.BAD);
        checks.due("NO for 0, but part", x.pair(1, 0, -1), Use.BAD);
        x.hold(2, 2, 3);
        checks.due("NONE, but part", x.pair(2, 1, 2), Use.BAD);
        checks.due("all", x.pair(8, -1, 2), Use.BAD);
    }

    private static void noPairIsAlike() {
        // 3 3 is 2 by 3, 5 5 is 2 by 5, 4 4 is 1 by 2: these do not count.
        checks.due("2 by 3: 2 6", Use.holding(2, 3).pairs(0), 1);
        checks.due("2 by 5: 3 15", Use.holding(2, 5).pairs(0), 1);
        checks.due("1 by 2: 3 6", Use.holding(1, 2).pairs(0), 1);
        checks.due("1 by 3: 4 12", Use.holding(1, 3).pairs(0), 1);
        // Of 1 by 2 neither 3 12 12, 4 8 8, 5 5 10 nor 6 6 6.
        checks.due("threes of 1 by 2", Use.holding(1, 2).threes(0), 6);
        // Of 3 by 4 neither 2 8 8, 3 3 12 nor 4 4 4: 2 5 20, 2 6 12, 3 4 6.
        checks.due("threes of 3 by 4", Use.holding(3, 4).threes(0), 3);
        // Of 11 by 12 2 3 12 and 2 4 6, not 3 3 4.
        checks.due("threes of 11 by 12", Use.holding(11, 12).threes(0), 2);
    }

    private static void howeverGreat() {
        checks.due("1 by 4999", Use.holding(1, 4999).pair(0, 0, 1), 24995000);
        checks.due("1 by 5000", Use.holding(1, 5000).pair(0, 0, 1), 25005000);
        // 2 by q: a is (q + 1) by 2, b is q a.
        checks.due("2 by 4999", Use.holding(2, 4999).pair(0, 0, 1), 4999 * 2500);
        // Of 1 by q with q prime: (q + 1)'s own pairs and more, c up to q (q + 1) (q (q + 1) + 1).
        checks.due("1 by 293", Use.holding(1, 293).threes(0), Plain.allThrees(1, 293));
    }

    private static void asHeldNow() {
        SingleShares x = Use.holding(1, 6);
        checks.due("1 by 6", x.pairs(0), 4);
        x.hold(0, 1, 5001);
        checks.due("NO now", x.pair(0, 0, 0), Use.NO);
        x.hold(0, 2, 3);
        checks.due("2 by 3 without asking how many", x.pair(0, 0, 1), 6);
        checks.due("and no more", x.pair(0, 1, 0), Use.NONE);
        x.hold(1, 1, 6);
        checks.due("two in turn", x.pair(1, 3, 0), 10);
        checks.due("two in turn", x.pair(0, 0, 0), 2);
        checks.due("threes between", x.threes(1), Plain.allThrees(1, 6));
        checks.due("two in turn", x.pair(1, 3, 1), 15);
        x.hold(1, 5, 6);
        checks.due("another p, the same q", x.pair(1, 0, 1), 3);
        x.hold(1, 5, 8);
        checks.due("another q, the same p", x.pair(1, 0, 1), 8);
    }

    private static void tableQIs2To60() {
        SingleShares x = new SingleShares();
        for (int q : new int[] {1, 0, -1, 61, Use.LOWEST, Use.HIGHEST}) {
            checks.due("q " + q, x.table(q, 40, 4, 0), Use.BAD);
            checks.due("q " + q, x.table(q, 40, 4, 1), Use.BAD);
        }
        checks.due("q 2", x.table(2, 40, 4, 1), 1);
        checks.due("q 2, hardest", x.table(2, 40, 4, 0), 1);
        checks.due("q 60", x.table(60, 40, 4, 2), 1);
        checks.due("q 60", x.table(60, 40, 4, 59), 4);
    }

    private static void tableNIs2To40() {
        SingleShares x = new SingleShares();
        for (int n : new int[] {1, 0, -1, 41, 60, Use.LOWEST, Use.HIGHEST}) {
            checks.due("N " + n, x.table(2, n, 4, 0), Use.BAD);
            checks.due("N " + n, x.table(2, n, 4, 1), Use.BAD);
        }
        checks.due("N 2", x.table(2, 2, 1, 1), 1);
        checks.due("N 40", x.table(40, 40, 1, 1), 1);
    }

    private static void tableKIs1To4() {
        SingleShares x = new SingleShares();
        for (int k : new int[] {0, -1, 5, 6, Use.LOWEST, Use.HIGHEST}) {
            checks.due("k " + k, x.table(2, 2, k, 0), Use.BAD);
            checks.due("k " + k, x.table(2, 2, k, 1), Use.BAD);
        }
        checks.due("k 1", x.table(2, 2, 1, 1), 1);
        checks.due("k 4", x.table(2, 2, 4, 1), 1);
    }

    private static void tablePIs0ToQLess1() {
        SingleShares x = new SingleShares();
        for (int q : new int[] {2, 7, 60}) {
            for (int p : new int[] {-1, q, q + 1, Use.LOWEST, Use.HIGHEST}) {
                checks.due("p " + p + " of " + q, x.table(q, 40, 4, p), Use.BAD);
            }
        }
        checks.due("p 1", x.table(7, 40, 4, 1), 1);
        checks.due("p 6", x.table(7, 40, 4, 6), 4);
        checks.due("p 0", x.table(7, 40, 4, 0), 6);
    }

    private static void tableNoneAboveN() {
        SingleShares x = new SingleShares();
        checks.due("1 by 40 with 40", x.table(40, 40, 1, 1), 1);
        checks.due("1 by 40 with 39", x.table(40, 39, 1, 1), Use.NONE);
        checks.due("1 by 41 with 40", x.table(41, 40, 4, 1), Use.NONE);
        checks.due("1 by 60 with 40", x.table(60, 40, 4, 1), Use.NONE);
        // 2 by 7 is 4 28.
        checks.due("2 by 7 with 28", x.table(7, 28, 2, 2), 2);
        checks.due("2 by 7 with 27", x.table(7, 27, 2, 2), Use.NONE);
        checks.due("1 by 2 with 2", x.table(2, 2, 4, 1), 1);
        checks.due("1 by 3 with 2", x.table(3, 2, 4, 1), Use.NONE);
        checks.due("2 by 3 is 2 6", x.table(3, 6, 4, 2), 2);
        checks.due("2 by 3 with 5", x.table(3, 5, 4, 2), Use.NONE);
    }

    private static void tableAtMostK() {
        SingleShares x = new SingleShares();
        checks.due("2 by 3 with one", x.table(3, 40, 1, 2), Use.NONE);
        checks.due("2 by 3 with two", x.table(3, 40, 2, 2), 2);
        checks.due("3 by 7 with two", x.table(7, 40, 2, 3), Use.NONE);
        checks.due("3 by 7 with three", x.table(7, 40, 3, 3), 3);
        checks.due("59 by 60 with three", x.table(60, 40, 3, 59), Use.NONE);
        checks.due("59 by 60 with four", x.table(60, 40, 4, 59), 4);
        // 8 by 11 wants five shares.
        checks.due("8 by 11", x.table(11, 40, 4, 8), Use.NONE);
        checks.due("fewest, though more would do", x.table(2, 40, 4, 1), 1);
    }

    private static void tableAsItStands() {
        SingleShares x = new SingleShares();
        checks.due("2 by 4", x.table(4, 2, 1, 2), 1);
        checks.due("6 by 12", x.table(12, 12, 3, 6), 1);
        checks.due("30 by 60", x.table(60, 40, 1, 30), 1);
        checks.due("58 by 60 as 29 by 30", x.table(60, 40, 4, 58), x.table(30, 40, 4, 29));
    }

    private static void hardest() {
        SingleShares x = new SingleShares();
        // With 2 3 6: 1, 2, 3, 5 by 6 have 1 1 1 2 shares, 4 by 6 has 2: of 4 and 5 the lesser.
        checks.due("of several the least", x.table(6, 6, 2, 0), 4);
        // Only 1 by 2 of fourths can be made with 2: 1 by 4 has none, 3 by 4 neither.
        checks.due("one that has none", x.table(4, 2, 4, 0), 1);
        // 1 by 4 and 2 by 4 by one share, 3 by 4 by none.
        checks.due("one that has none, the last", x.table(4, 4, 1, 0), 3);
        checks.due("with 2 4 it takes two", x.table(4, 4, 2, 0), 3);
        // 1 by 7 has one share, 2 by 7 none up to 10.
        checks.due("none is harder than any", x.table(7, 10, 2, 0), 2);
        checks.due("the only p", x.table(2, 2, 1, 0), 1);
        checks.due("thirds with 2: 1 by 3 has none", x.table(3, 2, 4, 0), 1);
        checks.due("sevenths", x.table(7, 40, 4, 0), 6);
    }

    private static void tableLeavesAllSums() {
        SingleShares x = Use.holding(1, 2);
        x.sums(0, 24, 3);
        x.table(60, 40, 4, 0);
        x.table(60, 40, 4, 59);
        x.table(61, 40, 4, 59);
        checks.due("as many", x.count(2), 7);
        checks.row("the first", Use.sum(x, 0), 2);
        checks.row("the last", Use.sum(x, 6), 4, 6, 12);
        checks.due("cuts", x.cuts(0, 6), 2);
    }

    private static void risingIs2To30() {
        SingleShares x = new SingleShares();
        for (int n : new int[] {1, 0, -1, 31, Use.LOWEST, Use.HIGHEST}) {
            for (int part = 0; part <= 2; part++) {
                checks.due("rising " + n, x.rising(n, part), Use.BAD);
            }
        }
        checks.due("2: whole", x.rising(2, 0), 0);
        checks.due("2: above", x.rising(2, 1), 1);
        checks.due("2: below", x.rising(2, 2), 2);
        checks.due("30: whole", x.rising(30, 0), 2);
        checks.due("30: above", x.rising(30, 1), 2317414141747L);
        checks.due("30: below", x.rising(30, 2), 2329089562800L);
    }

    private static void risingParts() {
        SingleShares x = new SingleShares();
        for (int part : new int[] {-1, 3, Use.LOWEST, Use.HIGHEST}) {
            checks.due("part " + part, x.rising(2, part), Use.BAD);
            checks.due("part " + part, x.rising(30, part), Use.BAD);
        }
        // 1 by 2, 1 by 3, 1 by 4 are 13 by 12.
        checks.due("3: whole", x.rising(3, 0), 0);
        checks.due("4: whole", x.rising(4, 0), 1);
        checks.due("4: above", x.rising(4, 1), 1);
        checks.due("4: below", x.rising(4, 2), 12);
        checks.due("10: whole", x.rising(10, 0), 1);
        checks.due("11: whole", x.rising(11, 0), 2);
    }

    private static void risingInLowestTerms() {
        SingleShares x = new SingleShares();
        // To 6 it is 87 by 60: 1 and 9 by 20.
        checks.due("6: whole", x.rising(6, 0), 1);
        checks.due("6: above", x.rising(6, 1), 9);
        checks.due("6: below", x.rising(6, 2), 20);
    }

    private static void firstAboveIs1To2() {
        SingleShares x = new SingleShares();
        for (int w : new int[] {0, -1, 3, Use.LOWEST, Use.HIGHEST}) {
            checks.due("w " + w, x.firstAbove(w), Use.BAD);
        }
        checks.due("w 1", x.firstAbove(1), 4);
        checks.due("w 2", x.firstAbove(2), 11);
    }
}
