import java.util.Arrays;

/** The bounds of part 3 of the terms (all sums, wishes, cuts) and of promises 8 to 14 and 25. */
public final class SumBoundsTest {
    private static final Checks checks = new Checks();

    public static void main(String[] args) {
        beforeAnythingIsAsked();
        numbersAre2To60();
        sharesAre1To6();
        registersAre0To7();
        above0AndBelow1();
        noneAboveN();
        atMostKShares();
        inOrder();
        neverMoreThan2000();
        whenThereAreNone();
        placesOfSums();
        theyStayTillAskedAnew();
        wishIs1To8Bytes();
        onlySixLettersAreWishes();
        faultIsTheFirstPlace();
        wishesComeInPlaceOfThoseTold();
        bestByEachLetter();
        bestOfSeveral();
        bestRefused();
        cutsAtTheEnds();
        cutsThroughAllSumsAlone();
        aCutBringsUnlikeNumbersNotThere();
        counts();
        checks.end();
    }

    /** The fraction 1 by 2 with 24 and 3: 2; 3 6; 3 8 24; 3 9 18; 3 10 15; 4 5 20; 4 6 12. */
    private static SingleShares sevenSums() {
        SingleShares x = Use.holding(1, 2);
        checks.due("seven sums", x.sums(0, 24, 3), 7);
        return x;
    }

    private static SingleShares noSums() {
        SingleShares x = Use.holding(1, 61);
        checks.due("no sums", x.sums(0, 60, 6), 0);
        return x;
    }

    private static void beforeAnythingIsAsked() {
        SingleShares x = Use.holding(1, 2);
        nothingAsked(x);
        Use.wish(x, "fl");
        nothingAsked(x);
        // What is refused asks nothing.
        x.sums(0, 1, 1);
        x.sums(8, 2, 1);
        x.sums(7, 2, 1);
        x.table(60, 40, 4, 0);
        nothingAsked(x);
    }

    private static void nothingAsked(SingleShares x) {
        checks.due("sum", x.sum(0, 0), Use.NO);
        checks.due("sum, how many", x.sum(0, -1), Use.NO);
        checks.due("sum far away", x.sum(Use.HIGHEST, Use.HIGHEST), Use.NO);
        checks.due("sum -1", x.sum(-1, 0), Use.BAD);
        checks.due("sum j -2", x.sum(0, -2), Use.BAD);
        checks.due("best", x.best(), Use.NO);
        checks.due("cuts", x.cuts(0, 0), Use.NO);
        checks.due("cuts -1", x.cuts(-1, 0), Use.BAD);
        checks.due("cuts to -1", x.cuts(0, -1), Use.BAD);
        checks.due("beside", x.beside(0), Use.NO);
        checks.due("beside -1", x.beside(-1), Use.BAD);
        checks.due("count of sums", x.count(2), 0);
        checks.due("count of shares", x.count(3), 0);
    }

    private static void numbersAre2To60() {
        SingleShares x = Use.holding(1, 2);
        for (int n : new int[] {1, 61, 0, -1, Use.LOWEST, Use.HIGHEST}) {
            checks.due("N " + n, x.sums(0, n, 1), Use.BAD);
            checks.due("N " + n, x.sums(0, n, 6), Use.BAD);
        }
        checks.due("N 2", x.sums(0, 2, 1), 1);
        checks.row("N 2", Use.sum(x, 0), 2);
        checks.due("N 60", x.sums(0, 60, 1), 1);
    }

    private static void sharesAre1To6() {
        SingleShares x = Use.holding(1, 2);
        for (int k : new int[] {0, 7, -1, Use.LOWEST, Use.HIGHEST}) {
            checks.due("k " + k, x.sums(0, 2, k), Use.BAD);
            checks.due("k " + k, x.sums(0, 60, k), Use.BAD);
        }
        checks.due("k 1", x.sums(0, 2, 1), 1);
        checks.due("k 6", x.sums(0, 2, 6), 1);
    }

    private static void registersAre0To7() {
        SingleShares x = Use.holding(1, 2);
        for (int register : new int[] {-1, 8, Use.LOWEST, Use.HIGHEST}) {
            checks.due("register " + register, x.sums(register, 6, 2), Use.BAD);
        }
        x.hold(7, 1, 2);
        checks.due("register 0", x.sums(0, 6, 2), 2);
        checks.due("register 7", x.sums(7, 6, 2), 2);
    }

    private static void above0AndBelow1() {
        int[][] no = {{0, 1}, {1, 1}, {1000000, 999999}, {3, 2}, {1000000, 1}};
        for (int[] n : no) {
            SingleShares x = Use.holding(n[0], n[1]);
            checks.due("sums of " + n[0] + " by " + n[1], x.sums(0, 60, 6), Use.NO);
            checks.due("N is BAD ahead of NO", x.sums(0, 61, 6), Use.BAD);
            checks.due("k is BAD ahead of NO", x.sums(0, 60, 7), Use.BAD);
            checks.due("nothing was asked", x.sum(0, 0), Use.NO);
        }
        checks.due("1 by 1000000", Use.holding(1, 1000000).sums(0, 60, 6), 0);
        checks.due("999999 by 1000000", Use.holding(999999, 1000000).sums(0, 60, 6), 0);
    }

    private static void noneAboveN() {
        for (int n = 2; n <= 60; n++) {
            SingleShares x = Use.holding(1, n);
            checks.due("1 by N", x.sums(0, n, 1), 1);
            checks.row("1 by N", Use.sum(x, 0), n);
            if (n > 2) {
                checks.due("1 by N for N less 1", x.sums(0, n - 1, 1), 0);
            }
        }
        checks.due("3 6 for 6", Use.holding(1, 2).sums(0, 6, 2), 2);
        checks.due("3 6 for 5", Use.holding(1, 2).sums(0, 5, 2), 1);
        SingleShares x = Use.holding(4, 5);
        checks.due("2 4 20 for 20", x.sums(0, 20, 3), 2);
        checks.due("2 4 20 for 19", x.sums(0, 19, 3), 1);
        checks.due("2 5 10 for 10", x.sums(0, 10, 3), 1);
        checks.due("2 5 10 for 9", x.sums(0, 9, 3), 0);
        // 1 by 59 and 1 by 60 together.
        checks.due("59 60 for 60", Use.holding(119, 3540).sums(0, 60, 2), 1);
        checks.due("59 60 for 59", Use.holding(119, 3540).sums(0, 59, 6), 0);
    }

    private static void atMostKShares() {
        int[] many = {1, 2, 7};
        for (int k = 1; k <= 3; k++) {
            SingleShares x = Use.holding(1, 2);
            checks.due("1 by 2 for k " + k, x.sums(0, 24, k), many[k - 1]);
            for (int i = 0; i < many[k - 1]; i++) {
                checks.holds("not more than k", x.sum(i, -1) <= k);
            }
        }
        SingleShares x = Use.holding(4, 5);
        checks.due("4 by 5 for 6", x.sums(0, 60, 6), 227);
        int[] by = new int[8];
        for (int i = 0; i < 227; i++) {
            by[x.sum(i, -1)]++;
        }
        checks.row("how many have how many shares", Arrays.stream(by).asLongStream().toArray(), 0, 0, 0, 2, 11, 44, 170, 0);
    }

    private static void inOrder() {
        SingleShares x = sevenSums();
        long[][] due = {{2}, {3, 6}, {3, 8, 24}, {3, 9, 18}, {3, 10, 15}, {4, 5, 20}, {4, 6, 12}};
        for (int i = 0; i < due.length; i++) {
            checks.row("sum " + i, Use.sum(x, i), due[i]);
        }
    }

    /** Of all sums of at most six shares 2 to 60 no fraction has more than 5 by 12: so none is SPENT. */
    private static void neverMoreThan2000() {
        SingleShares x = Use.holding(5, 12);
        checks.due("5 by 12", x.sums(0, 60, 6), 391);
        checks.due("count", x.count(2), 391);
        checks.row("the last", Use.sum(x, 390), 10, 11, 12, 15, 22, 33);
        checks.due("behind it", x.sum(391, -1), Use.NONE);
        checks.due("cuts from the last", x.cuts(390, 390), 0);
        checks.due("beside the one behind", x.beside(391), Use.NO);
    }

    private static void whenThereAreNone() {
        SingleShares x = noSums();
        checks.due("sum", x.sum(0, 0), Use.NONE);
        checks.due("sum, how many", x.sum(0, -1), Use.NONE);
        checks.due("sum -1", x.sum(-1, 0), Use.BAD);
        checks.due("sum j -2", x.sum(0, -2), Use.BAD);
        checks.due("best", x.best(), Use.NONE);
        checks.due("cuts", x.cuts(0, 0), Use.NO);
        checks.due("cuts -1", x.cuts(0, -1), Use.BAD);
        checks.due("beside", x.beside(0), Use.NO);
        checks.due("beside -1", x.beside(-1), Use.BAD);
        checks.due("count of sums", x.count(2), 0);
        checks.due("count of shares", x.count(3), 0);
        Use.wish(x, "flgseo");
        checks.due("best by wishes", x.best(), Use.NONE);
        Use.wish(x, "ff");
        checks.due("best with a fault", x.best(), Use.NO);
        // None after some: what was there is gone.
        SingleShares y = sevenSums();
        y.cuts(0, 6);
        y.hold(0, 1, 61);
        checks.due("none now", y.sums(0, 60, 6), 0);
        checks.due("none now", y.sum(0, 0), Use.NONE);
        checks.due("none now", y.cuts(0, 6), Use.NO);
        checks.due("none now", y.beside(0), Use.NO);
        checks.due("none now", y.count(2) + y.count(3), 0);
    }

    private static void placesOfSums() {
        SingleShares x = sevenSums();
        checks.due("i -1", x.sum(-1, 0), Use.BAD);
        checks.due("i lowest", x.sum(Use.LOWEST, 0), Use.BAD);
        checks.due("j -2", x.sum(0, -2), Use.BAD);
        checks.due("j lowest", x.sum(0, Use.LOWEST), Use.BAD);
        checks.due("j is BAD ahead of NONE", x.sum(7, -2), Use.BAD);
        checks.due("i is BAD ahead of NONE", x.sum(-1, 99), Use.BAD);
        checks.due("how many", x.sum(6, -1), 3);
        checks.due("the first", x.sum(6, 0), 4);
        checks.due("the last", x.sum(6, 2), 12);
        checks.due("behind the last share", x.sum(6, 3), Use.NONE);
        checks.due("behind the only share", x.sum(0, 1), Use.NONE);
        checks.due("far behind", x.sum(6, Use.HIGHEST), Use.NONE);
        checks.due("behind the last sum", x.sum(7, 0), Use.NONE);
        checks.due("how many of none", x.sum(7, -1), Use.NONE);
        checks.due("2000", x.sum(2000, 0), Use.NONE);
        checks.due("2001", x.sum(2001, 0), Use.NONE);
        checks.due("far behind", x.sum(Use.HIGHEST, 0), Use.NONE);
    }

    private static void theyStayTillAskedAnew() {
        SingleShares x = sevenSums();
        x.hold(0, 2, 3);
        x.hold(1, 1, 1);
        x.reckon(2, 0, 0, 1);
        x.road(Use.GREED, 0);
        x.table(12, 40, 3, 0);
        x.multiple(0);
        x.threes(0);
        x.loaves(Use.GREED, 2, 3, 1);
        checks.due("BAD", x.sums(0, 61, 6), Use.BAD);
        checks.due("BAD", x.sums(-1, 60, 6), Use.BAD);
        checks.due("NO", x.sums(1, 60, 6), Use.NO);
        checks.due("NO", x.sums(7, 60, 6), Use.NO);
        checks.due("still seven", x.count(2), 7);
        checks.due("with as many shares", x.count(3), 18);
        checks.row("the last", Use.sum(x, 6), 4, 6, 12);
        checks.due("as many cuts", x.cuts(0, 6), 2);
        checks.due("asked anew", x.sums(0, 6, 2), 1);
        checks.due("asked anew", x.count(2), 1);
        checks.row("asked anew", Use.sum(x, 0), 2, 6);
        checks.due("one alone", x.cuts(0, 1), Use.NO);
    }

    private static void wishIs1To8Bytes() {
        SingleShares x = new SingleShares();
        for (int n : new int[] {0, 9, -1, Use.LOWEST, Use.HIGHEST}) {
            checks.due("n " + n, x.wish(n, Use.text("f")), Use.BAD);
            checks.due("none told", x.count(1), 0);
        }
        for (int n = 1; n <= 8; n++) {
            checks.due("n " + n, x.wish(n, Use.text("flgseoxy".substring(0, n))), n);
            checks.due("told " + n, x.count(1), n);
            checks.due("fault of " + n, x.fault(), n <= 6 ? Use.NONE : 6);
        }
        checks.due("refused", x.wish(9, 0), Use.BAD);
        checks.due("refused", x.wish(0, 0), Use.BAD);
        checks.due("those told stay", x.count(1), 8);
        checks.due("with their fault", x.fault(), 6);
    }

    private static void onlySixLettersAreWishes() {
        for (int letter = 0; letter <= 255; letter++) {
            SingleShares x = new SingleShares();
            boolean known = "flgseo".indexOf(letter) >= 0;
            checks.due("byte " + letter, x.wish(1, letter), 1);
            checks.due("byte " + letter + " alone", x.fault(), known ? Use.NONE : 0);
            // As the highest of eight bytes, where v is below 0 from 128 on.
            x.wish(8, (long) letter << 56 | Use.text("flgseof"));
            checks.due("byte " + letter + " ahead", x.fault(), known ? 1 + "flgseo".indexOf(letter) : 0);
        }
    }

    private static void faultIsTheFirstPlace() {
        String[] texts = {"fx", "ff", "xf", "xx", "flx", "flf", "fll", "flgseof", "flgseoo", "flgseox", "flgseoxf", "oesglfxx", "Fl", "f\u0000", "f\u00e6l"};
        int[] faults = {1, 1, 0, 0, 2, 2, 2, 6, 6, 6, 6, 6, 0, 1, 1};
        for (int i = 0; i < texts.length; i++) {
            SingleShares x = new SingleShares();
            checks.due("wish " + texts[i], x.wish(texts[i].length(), Use.text(texts[i])), texts[i].length());
            checks.due("fault of " + texts[i], x.fault(), faults[i]);
            checks.due("asked again", x.fault(), faults[i]);
        }
    }

    private static void wishesComeInPlaceOfThoseTold() {
        SingleShares x = sevenSums();
        Use.wish(x, "el");
        Use.wish(x, "e");
        checks.due("e told twice, not alike in one text", x.fault(), Use.NONE);
        checks.due("one", x.count(1), 1);
        Use.wish(x, "gg");
        checks.due("a fault", x.fault(), 1);
        Use.wish(x, "g");
        checks.due("no more", x.fault(), Use.NONE);
        checks.due("best by g alone", x.best(), 5);
        checks.due("bytes of v above n", x.wish(1, Use.text("xxxxxxxe")), 1);
        checks.due("are left", x.fault(), Use.NONE);
        checks.due("are left", x.best(), 6);
    }

    private static void bestByEachLetter() {
        SingleShares x = sevenSums();
        // f: 2; l: 2; g: 4 5 20 ahead of 4 6 12; s: 2; e: 4 6 12; o: 3 9 18 ahead of 3 10 15.
        String[] letters = {"f", "l", "g", "s", "e", "o"};
        int[] bests = {0, 0, 5, 0, 6, 3};
        for (int i = 0; i < letters.length; i++) {
            Use.wish(x, letters[i]);
            checks.due("best by " + letters[i], x.best(), bests[i]);
        }
        SingleShares y = Use.holding(4, 5);
        y.sums(0, 60, 3);
        Use.wish(y, "l");
        checks.due("2 5 10 ends with less than 2 4 20", y.best(), 1);
        Use.wish(y, "s");
        checks.due("and has less together", y.best(), 1);
        Use.wish(y, "e");
        checks.due("2 4 20 has more even ones", y.best(), 0);
        Use.wish(y, "o");
        checks.due("2 5 10 has more odd ones", y.best(), 1);
        Use.wish(y, "g");
        checks.due("alike", y.best(), 0);
    }

    private static void bestOfSeveral() {
        SingleShares x = sevenSums();
        checks.due("no WISHES: the first in order", x.best(), 0);
        String[] texts = {"gs", "gl", "ge", "go", "oe", "ol", "os", "og", "eo", "ogfle", "oesglf"};
        // By g 4 5 20 (29 together) or 4 6 12 (22); by o 3 9 18 (30) or 3 10 15 (28).
        int[] bests = {6, 6, 6, 5, 3, 4, 4, 3, 6, 4, 4};
        for (int i = 0; i < texts.length; i++) {
            Use.wish(x, texts[i]);
            checks.due("best by " + texts[i], x.best(), bests[i]);
        }
    }

    private static void bestRefused() {
        SingleShares x = sevenSums();
        Use.wish(x, "fx");
        checks.due("a fault behind a good letter", x.best(), Use.NO);
        Use.wish(x, "ff");
        checks.due("a letter twice", x.best(), Use.NO);
        Use.wish(x, "f");
        checks.due("mended", x.best(), 0);
        SingleShares y = new SingleShares();
        Use.wish(y, "x");
        checks.due("a fault, none asked", y.best(), Use.NO);
        Use.wish(y, "f");
        checks.due("none asked", y.best(), Use.NO);
    }

    private static void cutsAtTheEnds() {
        SingleShares x = sevenSums();
        for (int i = 0; i < 7; i++) {
            checks.due("to itself", x.cuts(i, i), 0);
            checks.due("from -1", x.cuts(-1, i), Use.BAD);
            checks.due("to -1", x.cuts(i, -1), Use.BAD);
            checks.due("from 7", x.cuts(7, i), Use.NO);
            checks.due("to 7", x.cuts(i, 7), Use.NO);
            checks.due("to the highest", x.cuts(i, Use.HIGHEST), Use.NO);
        }
        checks.due("BAD ahead of NO", x.cuts(7, -1), Use.BAD);
        checks.due("BAD ahead of NO", x.cuts(-1, 7), Use.BAD);
        checks.due("lowest", x.cuts(Use.LOWEST, Use.LOWEST), Use.BAD);
        checks.due("the last", x.cuts(0, 6), 2);
        checks.due("can't be", x.cuts(0, 5), Use.NONE);
        checks.due("nor back", x.cuts(5, 0), Use.NONE);
        checks.due("beside -1", x.beside(-1), Use.BAD);
        checks.due("beside lowest", x.beside(Use.LOWEST), Use.BAD);
        checks.due("beside 0", x.beside(0), 1);
        checks.due("beside the last", x.beside(6), 1);
        checks.due("beside 7", x.beside(7), Use.NO);
        checks.due("beside highest", x.beside(Use.HIGHEST), Use.NO);
    }

    private static void cutsThroughAllSumsAlone() {
        SingleShares x = Use.holding(1, 2);
        x.sums(0, 20, 3);
        checks.row("4 5 20", Use.sum(x, 4), 4, 5, 20);
        checks.due("not by three shares", x.cuts(0, 4), Use.NONE);
        x.sums(0, 20, 4);
        checks.row("4 5 20", Use.sum(x, 4), 4, 5, 20);
        checks.due("by four", x.cuts(0, 4), 4);
        SingleShares y = Use.holding(3, 5);
        y.sums(0, 29, 4);
        checks.row("3 5 15", Use.sum(y, 1), 3, 5, 15);
        checks.due("2 10 to 3 5 15 not by 29", y.cuts(0, 1), Use.NONE);
        y.sums(0, 30, 4);
        checks.row("3 5 15", Use.sum(y, 2), 3, 5, 15);
        checks.due("but by 30", y.cuts(0, 2), 3);
        // 12 alone, and by one cut 15 60, 16 48, 18 36, 20 30, 21 28.
        SingleShares w = Use.holding(1, 12);
        checks.due("1 by 12 for 60", w.sums(0, 60, 2), 6);
        checks.due("beside 12 for 60", w.beside(0), 5);
        checks.due("1 by 12 for 59", w.sums(0, 59, 2), 5);
        checks.due("beside 12 for 59", w.beside(0), 4);
        SingleShares z = Use.holding(7, 12);
        z.sums(0, 30, 3);
        checks.due("2 20 30 to 3 5 20 by three", z.cuts(1, 4), 4);
        z.sums(0, 30, 4);
        checks.due("by four there is a shorter way", z.cuts(1, 4), 2);
    }

    private static void aCutBringsUnlikeNumbersNotThere() {
        SingleShares x = sevenSums();
        checks.due("3 6: back to 2, and 3 8 24, 3 9 18, 3 10 15, 4 6 12", x.beside(1), 5);
        checks.due("4 5 20: 4 is there, so 5 20 stay", x.beside(5), 0);
        checks.due("4 6 12: 6 12 would be 4, which is there", x.beside(6), 1);
        // 1 by 3 for 6, 2 is 3 alone: 6 and 6 are alike.
        SingleShares y = Use.holding(1, 3);
        checks.due("6 6 is no sum", y.sums(0, 6, 2), 1);
        checks.due("nothing beside", y.beside(0), 0);
        // 5 by 6 for 12, 3: 2 3; 2 4 12. Of 2 3 the 2 would be 3 and 6, and 3 is there.
        SingleShares z = Use.holding(5, 6);
        checks.due("5 by 6", z.sums(0, 12, 3), 2);
        checks.due("2 3", z.beside(0), 1);
        checks.due("2 4 12", z.beside(1), 1);
    }

    private static void counts() {
        SingleShares x = sevenSums();
        Use.wish(x, "flgx");
        checks.due("registers", x.count(0), 1);
        checks.due("wishes, the wrong one too", x.count(1), 4);
        checks.due("sums", x.count(2), 7);
        checks.due("shares", x.count(3), 1 + 2 + 5 * 3);
        for (int what : new int[] {-1, 4, Use.LOWEST, Use.HIGHEST}) {
            checks.due("what " + what, x.count(what), Use.BAD);
        }
    }
}
