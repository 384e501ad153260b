import java.util.ArrayList;
import java.util.List;

/**
 * Runs of calls on one object, with answers worked out by hand: later calls show what earlier ones have
 * changed and what they have left as it was.
 */
public final class RunsTest {
    private static final Checks checks = new Checks();

    private static String run;
    private static SingleShares x;

    public static void main(String[] args) {
        registersChangeOneByOne();
        roadsFollowTheRegisters();
        loavesLeaveRoads();
        sumsStayTillAskedAnew();
        wishesStayTillToldAnew();
        cutsGoThroughTheSumsAskedLatest();
        divisorsFollowTheRegisters();
        pairsFollowTheRegisters();
        tablesLeaveAll();
        fourCallsChangeOnePartEach();
        untilTheLastCall();
        checks.end();
    }

    private static void begin(String name) {
        run = name;
        x = new SingleShares();
    }

    private static void due(String call, long got, long want) {
        checks.due(run + ": " + call, got, want);
    }

    private static void holds(int register, int p, int q) {
        due("told(" + register + ", 0)", x.told(register, 0), p);
        due("told(" + register + ", 1)", x.told(register, 1), q);
    }

    private static void reckons(int to, int what, int a, int b, int p, int q) {
        due("reckon(" + to + ", " + what + ", " + a + ", " + b + ")", x.reckon(to, what, a, b), 0);
        holds(to, p, q);
    }

    private static void tells(int road, int register, long... want) {
        checks.row(run + ": road " + road + " of register " + register, Use.shares(x, road, register), want);
    }

    private static void sum(int i, long... want) {
        checks.row(run + ": sum " + i, Use.sum(x, i), want);
    }

    private static void registersChangeOneByOne() {
        begin("registers");
        due("count(0)", x.count(0), 0);
        due("hold(0, 2, 4)", x.hold(0, 2, 4), 0);
        due("hold(1, 3, 4)", x.hold(1, 3, 4), 0);
        due("hold(7, 5, 6)", x.hold(7, 5, 6), 0);
        due("count(0)", x.count(0), 3);
        reckons(2, 0, 0, 1, 5, 4);
        holds(0, 1, 2);
        holds(1, 3, 4);
        reckons(2, 1, 2, 7, 5, 12);
        holds(7, 5, 6);
        reckons(3, 2, 2, 1, 5, 16);
        reckons(3, 3, 3, 2, 3, 4);
        holds(2, 5, 12);
        due("against(3, 1)", x.against(3, 1), 0);
        reckons(0, 0, 0, 0, 1, 1);
        due("hold(1, 0, 9)", x.hold(1, 0, 9), 0);
        holds(1, 0, 1);
        due("count(0)", x.count(0), 4);
        due("against(3, 1)", x.against(3, 1), 1);
        due("by 0", x.reckon(3, 3, 0, 1), Use.NO);
        due("below 0", x.reckon(3, 1, 1, 0), Use.NO);
        due("hold(3, 1, 0)", x.hold(3, 1, 0), Use.BAD);
        holds(3, 3, 4);
        reckons(5, 1, 3, 3, 0, 1);
        due("count(0)", x.count(0), 4);
        due("against(3, 7)", x.against(3, 7), 2);
        reckons(7, 2, 1, 7, 0, 1);
        due("count(0)", x.count(0), 3);
        due("against(3, 7)", x.against(3, 7), 1);
        holds(4, 0, 1);
        holds(6, 0, 1);
    }

    private static void roadsFollowTheRegisters() {
        begin("roads");
        x.hold(0, 3, 7);
        x.hold(1, 5, 6);
        tells(Use.GREED, 0, 3, 11, 231);
        tells(Use.GREED, 1, 2, 3);
        due("the first register again", x.share(Use.GREED, 0, 2), 231);
        tells(Use.ODD, 0, 3, 11, 231);
        tells(Use.CUT, 0, 7, 8, 9, 56, 57, 72, 3192);
        tells(Use.MIDDLES, 0, 3, 15, 35);
        tells(Use.FACTORS, 0, 3, 12, 84);
        due("ODD of 5 by 6", x.share(Use.ODD, 1, 0), Use.NO);
        due("GREED after a refused road", x.share(Use.GREED, 0, 1), 11);
        x.hold(0, 2, 7);
        tells(Use.GREED, 0, 4, 28);
        due("no third one now", x.share(Use.GREED, 0, 2), Use.NONE);
        tells(Use.ODD, 0, 5, 13, 115, 10465);
        tells(Use.CUT, 0, 7, 8, 56);
        reckons(0, 0, 0, 1, 47, 42);
        due("above 1", x.road(Use.GREED, 0), Use.NO);
        due("above 1", x.share(Use.MIDDLES, 0, 0), Use.NO);
        tells(Use.GREED, 1, 2, 3);
        holds(0, 47, 42);
        holds(1, 5, 6);
        due("count(0)", x.count(0), 2);
    }

    private static void loavesLeaveRoads() {
        begin("loaves");
        x.hold(0, 2, 7);
        due("road", x.road(Use.GREED, 0), 2);
        due("loaves", x.loaves(Use.GREED, 3, 7, 0), 21);
        due("share", x.share(Use.GREED, 0, 1), 28);
        due("loaves", x.loaves(Use.GREED, 3, 7, 1), 5);
        due("share", x.share(Use.GREED, 0, 2), Use.NONE);
        due("loaves", x.loaves(Use.GREED, 3, 7, 2), 230);
        due("loaves refused", x.loaves(Use.ODD, 3, 6, 0), Use.NO);
        due("loaves SPENT", x.loaves(Use.ODD, 4, 13, 0), Use.SPENT);
        due("loaves", x.loaves(Use.MIDDLES, 3, 7, 2), 38);
        due("share", x.share(Use.GREED, 0, 0), 4);
        holds(0, 2, 7);
        due("count(0)", x.count(0), 1);
    }

    private static void sumsStayTillAskedAnew() {
        begin("sums");
        x.hold(0, 1, 2);
        x.hold(1, 2, 3);
        x.hold(2, 5, 6);
        due("sum before all", x.sum(0, -1), Use.NO);
        due("sums of 1 by 2", x.sums(0, 24, 3), 7);
        x.hold(0, 1, 3);
        due("count(2) after hold", x.count(2), 7);
        sum(6, 4, 6, 12);
        due("sums of 2 by 3", x.sums(1, 12, 3), 2);
        sum(0, 2, 6);
        sum(1, 3, 4, 12);
        due("no third one now", x.sum(2, 0), Use.NONE);
        due("count(3)", x.count(3), 5);
        due("sums of 0", x.sums(3, 12, 3), Use.NO);
        due("sums to 61", x.sums(2, 61, 3), Use.BAD);
        due("sums of none", x.sums(2, 60, 0), Use.BAD);
        sum(1, 3, 4, 12);
        due("count(2) after refused ones", x.count(2), 2);
        due("sums of 2 by 3 to 5", x.sums(1, 5, 6), 0);
        due("sum", x.sum(0, -1), Use.NONE);
        due("best", x.best(), Use.NONE);
        due("cuts", x.cuts(0, 0), Use.NO);
        due("beside", x.beside(0), Use.NO);
        due("count(2)", x.count(2), 0);
        due("count(3)", x.count(3), 0);
        due("sums of 1 by 3, as it is now", x.sums(0, 12, 3), 2);
        sum(0, 3);
        sum(1, 4, 12);
        due("count(3)", x.count(3), 3);
        due("count(0)", x.count(0), 3);
    }

    private static void wishesStayTillToldAnew() {
        begin("wishes");
        x.hold(0, 1, 2);
        x.hold(1, 1, 3);
        due("wish g", x.wish(1, 'g'), 1);
        due("best before all sums", x.best(), Use.NO);
        x.sums(0, 24, 3);
        due("best by g: 4 5 20", x.best(), 5);
        x.hold(0, 1, 7);
        due("best after hold", x.best(), 5);
        due("wish gl", x.wish(2, Use.text("gl")), 2);
        due("best by gl: 4 6 12", x.best(), 6);
        x.sums(1, 12, 3);
        due("best of the new ones: 4 12", x.best(), 1);
        due("count(1)", x.count(1), 2);
        due("wish lo", x.wish(2, Use.text("lo")), 2);
        due("best by lo: 3", x.best(), 0);
        due("wish of none", x.wish(0, 'e'), Use.BAD);
        due("wish of nine", x.wish(9, 'e'), Use.BAD);
        due("best as before: 3", x.best(), 0);
        due("wish e", x.wish(1, 'e'), 1);
        due("best by e: 4 12", x.best(), 1);
        due("wish ex", x.wish(2, Use.text("ex")), 2);
        due("fault", x.fault(), 1);
        due("best", x.best(), Use.NO);
        due("count(1)", x.count(1), 2);
        due("sums with a fault", x.sums(1, 3, 1), 1);
        sum(0, 3);
        due("cuts with a fault", x.cuts(0, 0), 0);
        due("fault", x.fault(), 1);
        due("wish f", x.wish(1, 'f'), 1);
        due("fault", x.fault(), Use.NONE);
        due("best", x.best(), 0);
        due("count(1)", x.count(1), 1);
    }

    private static void cutsGoThroughTheSumsAskedLatest() {
        begin("cuts");
        x.hold(0, 1, 2);
        x.hold(1, 5, 6);
        x.sums(0, 24, 3);
        due("2 to 4 6 12", x.cuts(0, 6), 2);
        due("2 to 4 5 20", x.cuts(0, 5), Use.NONE);
        due("3 6 beside", x.beside(1), 5);
        due("4 6 12 to 3 10 15", x.cuts(6, 4), 2);
        x.hold(0, 1, 3);
        due("2 to 3 10 15 after hold", x.cuts(0, 4), 2);
        x.hold(2, 2, 3);
        x.sums(2, 12, 3);
        due("2 6 to 3 4 12", x.cuts(0, 1), Use.NONE);
        x.sums(1, 12, 3);
        due("2 3 to 2 4 12", x.cuts(0, 1), 1);
        due("not so many now", x.cuts(0, 4), Use.NO);
        due("not so many now", x.beside(2), Use.NO);
        due("2 3 beside", x.beside(0), 1);
        x.sums(1, 12, 2);
        due("2 3 alone", x.cuts(0, 1), Use.NO);
        due("2 3 alone", x.beside(0), 0);
        due("sums of 1 by 1 is refused", x.reckon(1, 3, 1, 1) + x.sums(1, 12, 3), Use.NO);
        due("2 3 to itself", x.cuts(0, 0), 0);
    }

    private static void divisorsFollowTheRegisters() {
        begin("divisors");
        x.hold(0, 4, 13);
        x.hold(1, 5, 7);
        x.hold(2, 1, 5001);
        due("multiple(0)", x.multiple(0), 4);
        due("multiple(1)", x.multiple(1), 2);
        due("divisor(0, 0)", x.divisor(0, 0), 13);
        due("divisor(1, 0)", x.divisor(1, 0), 7);
        due("divisor(1, 1)", x.divisor(1, 1), 2);
        due("divisor(0, 1)", x.divisor(0, 1), 2);
        x.hold(3, 5, 13);
        due("divisor(3, -1): 20 of 52 is 13 4 2 1", x.divisor(3, -1), 4);
        due("divisor(3, 1)", x.divisor(3, 1), 4);
        due("divisor(0, -1)", x.divisor(0, -1), 3);
        due("divisor(2, -1)", x.divisor(2, -1), Use.SPENT);
        due("handy(12)", x.handy(12), 1);
        due("divisor(0, 2)", x.divisor(0, 2), 1);
        due("divisor(0, 3)", x.divisor(0, 3), Use.NONE);
        x.hold(0, 5, 12);
        due("multiple(0) anew", x.multiple(0), 1);
        due("divisor(0, -1) anew", x.divisor(0, -1), 2);
        due("divisor(0, 0) anew", x.divisor(0, 0), 4);
        due("divisor(1, 2)", x.divisor(1, 2), 1);
        x.reckon(0, 3, 0, 0);
        due("multiple of 1", x.multiple(0), Use.NO);
        due("divisor of 1", x.divisor(0, 0), Use.NO);
        due("divisor(1, -1)", x.divisor(1, -1), 3);
        due("multiple(2)", x.multiple(2), Use.SPENT);
        due("divisor(1, 0)", x.divisor(1, 0), 7);
        holds(0, 1, 1);
        holds(1, 5, 7);
        holds(2, 1, 5001);
    }

    private static void pairsFollowTheRegisters() {
        begin("pairs");
        x.hold(0, 5, 12);
        x.hold(1, 1, 2);
        due("pairs(0)", x.pairs(0), 2);
        due("pair(1, 0, 0)", x.pair(1, 0, 0), 3);
        due("pair(1, 0, 1)", x.pair(1, 0, 1), 6);
        due("pair(0, 1, 1)", x.pair(0, 1, 1), 6);
        due("threes(1)", x.threes(1), 6);
        due("pair(0, 0, 1)", x.pair(0, 0, 1), 12);
        due("pair(1, 1, 0)", x.pair(1, 1, 0), Use.NONE);
        x.hold(0, 2, 7);
        due("pairs(0) anew", x.pairs(0), 1);
        due("pair(0, 0, 0) anew", x.pair(0, 0, 0), 4);
        due("pair(0, 0, 1) anew", x.pair(0, 0, 1), 28);
        due("pair(0, 1, 1) anew", x.pair(0, 1, 1), Use.NONE);
        x.hold(0, 3, 7);
        due("pairs of 3 by 7", x.pairs(0), 0);
        due("pair of 3 by 7", x.pair(0, 0, 0), Use.NONE);
        x.hold(0, 1, 5001);
        due("pairs, q 5001", x.pairs(0), Use.NO);
        due("pair, q 5001", x.pair(0, 0, 0), Use.NO);
        due("pairs(1) still", x.pairs(1), 1);
        x.hold(0, 1, 301);
        due("threes, q 301", x.threes(0), Use.NO);
        due("pairs, q 301: by 1, 7, 43 and 49", x.pairs(0), 4);
        due("pair(0, 0, 1): 302 and", x.pair(0, 0, 1), 301 * 302);
        due("threes(1) still", x.threes(1), 6);
        due("pair(1, 0, 1) still", x.pair(1, 0, 1), 6);
    }

    private static void tablesLeaveAll() {
        begin("tables");
        x.hold(0, 1, 2);
        x.wish(2, Use.text("gl"));
        x.sums(0, 24, 3);
        due("cuts", x.cuts(0, 6), 2);
        due("hardest of 7", x.table(7, 40, 3, 0), 6);
        due("4 by 7", x.table(7, 40, 3, 4), 2);
        due("6 by 7", x.table(7, 40, 3, 6), Use.NONE);
        due("rising", x.rising(4, 2), 12);
        due("firstAbove", x.firstAbove(2), 11);
        due("2 by 4, as it stands", x.table(4, 2, 1, 2), 1);
        sum(6, 4, 6, 12);
        due("best", x.best(), 6);
        due("cuts", x.cuts(0, 4), 2);
        due("beside", x.beside(1), 5);
        due("count(0)", x.count(0), 1);
        due("count(1)", x.count(1), 2);
        due("count(2)", x.count(2), 7);
        due("count(3)", x.count(3), 18);
        holds(0, 1, 2);
    }

    private static long[] registers() {
        long[] seen = new long[16];
        for (int i = 0; i < 16; i++) {
            seen[i] = x.told(i / 2, i % 2);
        }
        return seen;
    }

    private static long[] wishes() {
        return new long[] {x.count(1), x.fault()};
    }

    private static long[] allSums() {
        List<Long> seen = new ArrayList<>(List.of((long) x.count(2), (long) x.count(3)));
        for (int i = 0; i <= x.count(2); i++) {
            for (int j = -1; j < 3; j++) {
                seen.add((long) x.sum(i, j));
            }
        }
        return seen.stream().mapToLong(value -> value).toArray();
    }

    private static void fourCallsChangeOnePartEach() {
        begin("one part each");
        x.hold(0, 1, 2);
        x.hold(1, 2, 3);
        x.wish(1, 'x');
        x.sums(0, 12, 3);
        long[] sumsAhead = allSums();
        checks.row("2; 3 6; 4 6 12", sumsAhead, 3, 6, 1, 2, -4, -4, 2, 3, 6, -4, 3, 4, 6, 12, -4, -4, -4, -4);
        x.hold(6, 9, 12);
        x.reckon(7, 0, 0, 1);
        checks.row("registers by hold and reckon", registers(), 1, 2, 2, 3, 0, 1, 0, 1, 0, 1, 0, 1, 3, 4, 7, 6);
        checks.row("wishes after hold and reckon", wishes(), 1, 0);
        checks.row("sums after hold and reckon", allSums(), sumsAhead);
        x.wish(3, Use.text("ofo"));
        checks.row("wishes by wish", wishes(), 3, 2);
        checks.row("sums after wish", allSums(), sumsAhead);
        checks.row("registers after wish", registers(), 1, 2, 2, 3, 0, 1, 0, 1, 0, 1, 0, 1, 3, 4, 7, 6);
        x.sums(1, 12, 2);
        checks.row("sums by sums: 2 6", allSums(), 1, 2, 2, 2, 6, -4, -4, -4, -4, -4);
        checks.row("wishes after sums", wishes(), 3, 2);
        checks.row("registers after sums", registers(), 1, 2, 2, 3, 0, 1, 0, 1, 0, 1, 0, 1, 3, 4, 7, 6);
    }

    /** 512 calls in all: four to begin with, then 127 times the same four. */
    private static void untilTheLastCall() {
        begin("512 calls");
        due("hold", x.hold(0, 1, 2), 0);
        due("hold", x.hold(1, 5, 6), 0);
        due("wish", x.wish(1, 'g'), 1);
        due("count", x.count(0), 2);
        for (int i = 0; i < 127; i++) {
            due("sums, round " + i, x.sums(i % 2, 12, 3), i % 2 == 0 ? 3 : 2);
            due("best, round " + i, x.best(), i % 2 == 0 ? 2 : 0);
            due("cuts, round " + i, x.cuts(0, 1), 1);
            due("share, round " + i, x.share(i % 5, 1, 0), new int[] {2, Use.NO, Use.SPENT, 2, 2}[i % 5]);
        }
    }
}
