import java.util.List;

/** The bounds of part 2 of the terms (roads), of loaves in part 5, and of promises 6, 7 and 24. */
public final class RoadBoundsTest {
    private static final int[] EVERY_ROAD = {Use.GREED, Use.ODD, Use.CUT, Use.MIDDLES, Use.FACTORS};
    private static final Checks checks = new Checks();

    public static void main(String[] args) {
        roadsAre0To4();
        registersAre0To7();
        above0AndBelow1();
        oddWantsOddQ();
        oddWantsUnlikeShares();
        placesBeginAt0();
        sixteenSharesAtMost();
        sharesUpTo1000000000000();
        commonNumberUpTo1000000000000000();
        cutTakesFewAlike();
        middlesEndWithS1();
        factorsMayBeAlike();
        whatIsToldRises();
        noComesAheadOfSpent();
        badComesFirst();
        aRoadIsAskedOfWhatIsHeldNow();
        spentLeavesOtherRoads();
        loavesAre1To1000();
        loavesPBelowQ();
        loavesWhatIs0To2();
        loavesRoadIs0To4();
        loavesInLowestTerms();
        loavesRoundedUp();
        loavesHoweverGreat();
        checks.end();
    }

    private static void roadsAre0To4() {
        SingleShares x = Use.holding(1, 3);
        for (int road : new int[] {-1, 5, Use.LOWEST, Use.HIGHEST}) {
            checks.due("road " + road, x.road(road, 0), Use.BAD);
            checks.due("share of road " + road, x.share(road, 0, 0), Use.BAD);
        }
        for (int road : EVERY_ROAD) {
            checks.due("road " + road, x.road(road, 0), 1);
            checks.due("share of road " + road, x.share(road, 0, 0), 3);
        }
    }

    private static void registersAre0To7() {
        SingleShares x = Use.holding(1, 3);
        x.hold(7, 1, 5);
        for (int road : EVERY_ROAD) {
            for (int register : new int[] {-1, 8, Use.LOWEST, Use.HIGHEST}) {
                checks.due("road for " + register, x.road(road, register), Use.BAD);
                checks.due("share for " + register, x.share(road, register, 0), Use.BAD);
            }
            checks.due("road for 7", x.road(road, 7), 1);
            checks.due("share for 7", x.share(road, 7, 0), 5);
        }
    }

    private static void above0AndBelow1() {
        int[][] no = {{0, 1}, {1, 1}, {1000000, 999999}, {1000000, 1}, {3, 2}, {3, 1}};
        for (int[] n : no) {
            for (int road : EVERY_ROAD) {
                refuses(road, n[0], n[1], Use.NO);
            }
        }
        for (int road : new int[] {Use.GREED, Use.CUT, Use.MIDDLES, Use.FACTORS}) {
            tells(road, 1, 1000000, 1000000);
            tells(road, 1, 2, 2);
            refuses(road, 999999, 1000000, Use.SPENT);
        }
        tells(Use.ODD, 1, 999999, 999999);
        refuses(Use.ODD, 999998, 999999, Use.SPENT);
    }

    private static void oddWantsOddQ() {
        refuses(Use.ODD, 1, 2, Use.NO);
        refuses(Use.ODD, 1, 1000000, Use.NO);
        refuses(Use.ODD, 999999, 1000000, Use.NO);
        tells(Use.ODD, 1, 3, 3);
        // In lowest terms: 2 by 6 is 1 by 3, 3 by 6 is 1 by 2.
        tells(Use.ODD, 2, 6, 3);
        refuses(Use.ODD, 3, 6, Use.NO);
    }

    private static void oddWantsUnlikeShares() {
        // After 3 there is 1 by 3 left, after 3 and 5 there is more than 1 by 5.
        tells(Use.ODD, 2, 3, 3, 5, 9, 45);
        tells(Use.ODD, 76, 77, 3, 5, 7, 9, 11, 13, 33, 635, 715091, 314679370005L);
    }

    private static void placesBeginAt0() {
        SingleShares x = Use.holding(4, 13);
        checks.due("-1", x.share(Use.GREED, 0, -1), Use.BAD);
        checks.due("lowest", x.share(Use.GREED, 0, Use.LOWEST), Use.BAD);
        checks.due("0", x.share(Use.GREED, 0, 0), 4);
        checks.due("the last", x.share(Use.GREED, 0, 2), 468);
        checks.due("behind the last", x.share(Use.GREED, 0, 3), Use.NONE);
        checks.due("15", x.share(Use.GREED, 0, 15), Use.NONE);
        checks.due("16", x.share(Use.GREED, 0, 16), Use.NONE);
        checks.due("highest", x.share(Use.GREED, 0, Use.HIGHEST), Use.NONE);
    }

    private static void sixteenSharesAtMost() {
        // p by p + 1 wants p shares n (n + 1).
        tells(Use.MIDDLES, 15, 16, 2, 6, 12, 20, 30, 42, 56, 72, 90, 110, 132, 156, 182, 210, 240);
        tells(Use.MIDDLES, 16, 17, 2, 6, 12, 20, 30, 42, 56, 72, 90, 110, 132, 156, 182, 210, 240, 272);
        refuses(Use.MIDDLES, 17, 18, Use.SPENT);
        counts(Use.FACTORS, 382, 383, 16, 55220633600L);
        // 17 shares, though the last would be 14113999872 only.
        refuses(Use.FACTORS, 510, 511, Use.SPENT);
        SingleShares x = Use.holding(16, 17);
        checks.due("the 16th", x.share(Use.MIDDLES, 0, 15), 272);
        checks.due("behind it", x.share(Use.MIDDLES, 0, 16), Use.NONE);
    }

    private static void sharesUpTo1000000000000() {
        // The comment tells the share that would have been the last one.
        counts(Use.GREED, 5968, 10913, 5, 999998490150L);
        refuses(Use.GREED, 6043, 8571, Use.SPENT); // 1000002740220
        counts(Use.ODD, 1661, 4469, 5, 999996181119L);
        refuses(Use.ODD, 705, 2249, Use.SPENT); // 1000023303825
        tells(Use.CUT, 2, 999999, 999999, 1000000, 999999000000L);
        counts(Use.CUT, 3, 998, 7, 994013985006L);
        refuses(Use.CUT, 3, 1000, Use.SPENT); // 1002002001000
        counts(Use.CUT, 4, 31, 15, 970336308192L);
        refuses(Use.CUT, 4, 33, Use.SPENT); // 1587616380042
        counts(Use.FACTORS, 80584, 729927, 5, 999999990000L);
        refuses(Use.FACTORS, 17341, 783731, Use.SPENT); // 1000000001988
        // MIDDLES: q s stays below 1000000000000 always.
        counts(Use.MIDDLES, 16, 999985, 16, 999985L * 937486);
        refuses(Use.MIDDLES, 17, 999975, Use.SPENT); // 17 shares
    }

    private static void commonNumberUpTo1000000000000000() {
        // 1147095 and the number below of what is left ahead of it: 1004279299160445; then only 769562681349 would follow.
        refuses(Use.ODD, 298105, 326241, Use.SPENT);
        refuses(Use.ODD, 75053, 83053, Use.SPENT); // 1194204539851785
        refuses(Use.ODD, 450933, 641839, Use.SPENT); // 1028775071779455
        tells(Use.ODD, 405969, 432839, 3, 5, 7, 9, 11, 17, 1129, 647995, 520471609119L); // 939451254459795
        // A rest is in lowest terms: the numbers below, not made lesser, would go above.
        tells(Use.ODD, 12106, 12191, 3, 5, 7, 9, 11, 13, 27, 1169, 704633, 993014624745L);
    }

    private static void cutTakesFewAlike() {
        tells(Use.CUT, 1, 2, 2);
        tells(Use.CUT, 2, 3, 3, 4, 12);
        counts(Use.CUT, 3, 4, 7, 420);
        counts(Use.CUT, 4, 5, 15, 865830);
        for (int p = 5; p <= 18; p++) {
            refuses(Use.CUT, p, p + 1, Use.SPENT);
            refuses(Use.CUT, p, 999983, Use.SPENT);
        }
        refuses(Use.CUT, 999999, 1000000, Use.SPENT);
        // From q (q + 1) twice on, however great their numbers would be.
        for (int q = 1000; q <= 1000000; q += q < 1100 ? 1 : 997) {
            for (int p = 3; p <= 4; p++) {
                SingleShares x = Use.holding(p, q);
                if (x.told(0, 0) == p) {
                    checks.due(name(Use.CUT, p, q), x.road(Use.CUT, 0), Use.SPENT);
                }
            }
        }
        // 16 at most in lowest terms: 17 by 34 is one share.
        tells(Use.CUT, 17, 34, 2);
        tells(Use.CUT, 500000, 1000000, 2);
    }

    private static void middlesEndWithS1() {
        tells(Use.MIDDLES, 1, 2, 2);
        tells(Use.MIDDLES, 1, 999999, 999999);
        tells(Use.MIDDLES, 2, 3, 2, 6);
        tells(Use.MIDDLES, 3, 5, 2, 10);
        tells(Use.MIDDLES, 2, 999999, 500000, 499999500000L);
    }

    private static void factorsMayBeAlike() {
        // 3 by 4 is a1 2 and a2 2, 7 by 8 is 2, 2 and 2.
        tells(Use.FACTORS, 3, 4, 2, 4);
        tells(Use.FACTORS, 7, 8, 2, 4, 8);
        tells(Use.FACTORS, 2, 3, 2, 6);
    }

    private static void whatIsToldRises() {
        for (int q = 2; q <= 40; q++) {
            for (int p = 1; p < q; p++) {
                for (int road : EVERY_ROAD) {
                    long[] shares = Use.shares(Use.holding(p, q), road, 0);
                    for (int i = 1; i < shares.length; i++) {
                        checks.holds(name(road, p, q) + " rises at " + i, shares[i - 1] < shares[i]);
                    }
                }
            }
        }
    }

    private static void noComesAheadOfSpent() {
        SingleShares x = Use.holding(999999, 1000000);
        checks.due("odd of an even q that greed is SPENT for", x.road(Use.ODD, 0), Use.NO);
        checks.due("its share", x.share(Use.ODD, 0, 0), Use.NO);
        checks.due("its share far behind", x.share(Use.ODD, 0, 99), Use.NO);
        checks.due("loaves", x.loaves(Use.ODD, 999, 1000, 0), Use.NO);
    }

    private static void badComesFirst() {
        SingleShares x = Use.holding(999999, 1000000);
        checks.due("SPENT, but i", x.share(Use.GREED, 0, -1), Use.BAD);
        checks.due("NO for odd, but i", x.share(Use.ODD, 0, -1), Use.BAD);
        checks.due("NO for 0, but i", x.share(Use.GREED, 1, -1), Use.BAD);
        checks.due("NO for 0, but the road", x.road(5, 1), Use.BAD);
        checks.due("NO for 0, but the road", x.share(5, 1, 0), Use.BAD);
        checks.due("all of them", x.share(-1, -1, -1), Use.BAD);
        checks.due("loaves: NO, but what", x.loaves(Use.ODD, 1, 2, 3), Use.BAD);
        checks.due("loaves: NO, but what", x.loaves(Use.ODD, 1, 2, -1), Use.BAD);
        checks.due("loaves: SPENT, but what", x.loaves(Use.CUT, 17, 19, 3), Use.BAD);
        checks.due("loaves: p and what", x.loaves(Use.CUT, 0, 19, 3), Use.BAD);
    }

    private static void aRoadIsAskedOfWhatIsHeldNow() {
        SingleShares x = Use.holding(4, 13);
        checks.due("road", x.road(Use.GREED, 0), 3);
        x.hold(0, 1, 7);
        checks.due("share of what is held now", x.share(Use.GREED, 0, 0), 7);
        checks.due("not of what was", x.share(Use.GREED, 0, 1), Use.NONE);
    }

    private static void spentLeavesOtherRoads() {
        SingleShares x = Use.holding(4, 13);
        x.hold(1, 5, 121);
        checks.due("odd", x.road(Use.ODD, 0), Use.SPENT);
        checks.due("odd share 0", x.share(Use.ODD, 0, 0), Use.SPENT);
        checks.due("odd share 16", x.share(Use.ODD, 0, 16), Use.SPENT);
        checks.due("greed after it", x.share(Use.GREED, 0, 2), 468);
        checks.due("greed of another", x.road(Use.GREED, 1), Use.SPENT);
        checks.due("middles of that", x.share(Use.MIDDLES, 1, 4), 11737);
        checks.due("loaves", x.loaves(Use.CUT, 17, 19, 0), Use.SPENT);
        checks.due("greed after that", x.share(Use.GREED, 0, 0), 4);
        checks.due("loaves after that", x.loaves(Use.GREED, 4, 13, 1), 6);
    }

    private static void loavesAre1To1000() {
        SingleShares x = new SingleShares();
        int[][] bad = {{0, 2}, {-1, 2}, {0, 1000}, {Use.LOWEST, 1000}, {1, 1001}, {1000, 1001}, {1, Use.HIGHEST}, {0, 1}, {0, 0}, {-2, -1}, {2, 2002}};
        for (int[] b : bad) {
            for (int what = 0; what <= 2; what++) {
                checks.due("loaves of " + b[0] + " by " + b[1], x.loaves(Use.GREED, b[0], b[1], what), Use.BAD);
            }
        }
        checks.due("the least", x.loaves(Use.GREED, 1, 2, 0), 2);
        checks.due("1 by 1000", x.loaves(Use.GREED, 1, 1000, 0), 1000);
        checks.due("999 by 1000", x.loaves(Use.GREED, 999, 1000, 0), 6000);
        checks.due("998 by 999 by factors wants 17 shares", x.loaves(Use.FACTORS, 998, 999, 0), Use.SPENT);
    }

    private static void loavesPBelowQ() {
        SingleShares x = new SingleShares();
        int[][] bad = {{1, 1}, {2, 2}, {1000, 1000}, {3, 2}, {1000, 999}, {1, 0}, {1, -1}, {1, Use.LOWEST}, {Use.HIGHEST, Use.HIGHEST}};
        for (int[] b : bad) {
            checks.due("loaves of " + b[0] + " by " + b[1], x.loaves(Use.GREED, b[0], b[1], 0), Use.BAD);
        }
        checks.due("one less", x.loaves(Use.MIDDLES, 2, 3, 0), 6);
    }

    private static void loavesWhatIs0To2() {
        SingleShares x = new SingleShares();
        for (int what : new int[] {-1, 3, Use.LOWEST, Use.HIGHEST}) {
            checks.due("what " + what, x.loaves(Use.GREED, 2, 5, what), Use.BAD);
        }
        // 3 and 15: 5 by 3 is 2 loaves with 1 piece over, 5 by 15 is 1 with 10.
        checks.due("pieces", x.loaves(Use.GREED, 2, 5, 0), 10);
        checks.due("whole", x.loaves(Use.GREED, 2, 5, 1), 3);
        checks.due("left", x.loaves(Use.GREED, 2, 5, 2), 11);
    }

    private static void loavesRoadIs0To4() {
        SingleShares x = new SingleShares();
        for (int road : new int[] {-1, 5, Use.LOWEST, Use.HIGHEST}) {
            checks.due("loaves by road " + road, x.loaves(road, 1, 3, 0), Use.BAD);
        }
        for (int road : EVERY_ROAD) {
            checks.due("loaves by road " + road, x.loaves(road, 1, 3, 0), 3);
        }
    }

    private static void loavesInLowestTerms() {
        SingleShares x = new SingleShares();
        checks.due("2 by 6 is 1 by 3", x.loaves(Use.ODD, 2, 6, 0), 6);
        checks.due("3 by 6 is 1 by 2", x.loaves(Use.ODD, 3, 6, 0), Use.NO);
        checks.due("200 by 1000 is 1 by 5", x.loaves(Use.ODD, 200, 1000, 0), 1000);
        checks.due("500 by 1000 is 1 by 2", x.loaves(Use.ODD, 500, 1000, 0), Use.NO);
        checks.due("30 by 1000 is 3 by 100", x.loaves(Use.CUT, 30, 1000, 0), 7000);
        checks.due("34 by 38 is 17 by 19", x.loaves(Use.CUT, 34, 38, 0), Use.SPENT);
        checks.due("the people are as told", x.loaves(Use.GREED, 8, 26, 0), 78);
    }

    private static void loavesRoundedUp() {
        SingleShares x = new SingleShares();
        // The share divides the people, and is above them.
        checks.due("whole, nothing over", x.loaves(Use.GREED, 500, 1000, 1), 500);
        checks.due("left, nothing over", x.loaves(Use.GREED, 500, 1000, 2), 0);
        checks.due("1 by 1000 whole", x.loaves(Use.GREED, 1, 1000, 1), 1);
        checks.due("1 by 1000 left", x.loaves(Use.GREED, 1, 1000, 2), 0);
        // 2 and 6 for 3: 2 loaves with 1 over, 1 with 3 over.
        checks.due("2 by 3 whole", x.loaves(Use.GREED, 2, 3, 1), 3);
        checks.due("2 by 3 left", x.loaves(Use.GREED, 2, 3, 2), 4);
    }

    private static void loavesHoweverGreat() {
        SingleShares x = new SingleShares();
        // 119 by 383: 4, 17, 532, 577309, 999856467134.
        checks.due("pieces", x.loaves(Use.GREED, 119, 383, 0), 5 * 383);
        checks.due("whole", x.loaves(Use.GREED, 119, 383, 1), 122);
        checks.due("left", x.loaves(Use.GREED, 119, 383, 2), 999857043835L);
        checks.due("one share too great", x.loaves(Use.GREED, 186, 427, 2), Use.SPENT);
    }

    private static void tells(int road, int p, int q, long... want) {
        SingleShares x = Use.holding(p, q);
        checks.row(name(road, p, q), Use.shares(x, road, 0), want);
        checks.due(name(road, p, q) + " behind the last", x.share(road, 0, want.length), Use.NONE);
    }

    /** How many shares there are, the greatest, and that they make the fraction as Plain has it. */
    private static void counts(int road, int p, int q, int many, long last) {
        SingleShares x = Use.holding(p, q);
        checks.due(name(road, p, q), x.road(road, 0), many);
        checks.due(name(road, p, q) + " last", x.share(road, 0, many - 1), last);
        checks.due(name(road, p, q) + " behind the last", x.share(road, 0, many), Use.NONE);
        List<Long> plain = Plain.walk(road, p, q);
        checks.row(name(road, p, q), Use.shares(x, road, 0), plain.stream().mapToLong(n -> n).toArray());
    }

    private static void refuses(int road, int p, int q, int answer) {
        SingleShares x = Use.holding(p, q);
        checks.due(name(road, p, q), x.road(road, 0), answer);
        for (int i : new int[] {0, 1, 15, 16, Use.HIGHEST}) {
            checks.due(name(road, p, q) + " share " + i, x.share(road, 0, i), answer);
        }
        checks.due(name(road, p, q) + " share -1", x.share(road, 0, -1), Use.BAD);
    }

    private static String name(int road, int p, int q) {
        return List.of("GREED", "ODD", "CUT", "MIDDLES", "FACTORS").get(road) + " " + p + " by " + q;
    }
}
