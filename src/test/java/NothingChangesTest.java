import java.util.ArrayList;
import java.util.List;

/**
 * "Of several the first; nothing changes then": every kind of refused call, on objects in three states; what
 * all later calls show is the same as without it. Calls that only ask are held to the same.
 */
public final class NothingChangesTest {
    private static final Checks checks = new Checks();

    private interface Call {
        long on(SingleShares x);
    }

    private record Named(String name, long due, Call call) {
    }

    private static final List<Named> calls = new ArrayList<>();

    public static void main(String[] args) {
        refusedInEveryState();
        eachLeaves("full", NothingChangesTest::full);
        eachLeaves("empty", NothingChangesTest::empty);
        eachLeaves("unasked", NothingChangesTest::unasked);
        calls.clear();
        refusedWhenFull();
        askedWhenFull();
        eachLeaves("full", NothingChangesTest::full);
        calls.clear();
        refusedWhenEmpty();
        eachLeaves("empty", NothingChangesTest::empty);
        calls.clear();
        refusedWhenUnasked();
        eachLeaves("unasked", NothingChangesTest::unasked);
        allAtOnce();
        checks.end();
    }

    private interface Maker {
        SingleShares make();
    }

    private static SingleShares unasked() {
        SingleShares x = new SingleShares();
        int[][] held = {{1, 2}, {4, 13}, {0, 1}, {3, 2}, {1, 101}, {999999, 1000000}, {1000000, 1}, {1, 9901}};
        for (int register = 0; register < held.length; register++) {
            x.hold(register, held[register][0], held[register][1]);
        }
        Use.wish(x, "ol");
        return x;
    }

    private static SingleShares full() {
        SingleShares x = unasked();
        x.sums(0, 24, 3);
        x.cuts(1, 6);
        return x;
    }

    private static SingleShares empty() {
        SingleShares x = unasked();
        x.sums(4, 60, 6);
        return x;
    }

    /** All that calls show of an object. */
    private static long[] shown(SingleShares x) {
        List<Long> seen = new ArrayList<>();
        for (int register = 0; register < 8; register++) {
            seen.add((long) x.told(register, 0));
            seen.add((long) x.told(register, 1));
        }
        for (int what = 0; what < 4; what++) {
            seen.add((long) x.count(what));
        }
        seen.add((long) x.fault());
        seen.add((long) x.best());
        for (int i = 0; i < 8; i++) {
            for (int j = -1; j <= 3; j++) {
                seen.add((long) x.sum(i, j));
            }
            seen.add((long) x.beside(i));
            seen.add((long) x.cuts(1, i));
            seen.add((long) x.cuts(i, 6));
        }
        for (int i = -1; i <= 2; i++) {
            seen.add((long) x.divisor(1, i));
        }
        seen.add(x.share(Use.GREED, 1, 2));
        seen.add(x.pair(0, 0, 1));
        return seen.stream().mapToLong(value -> value).toArray();
    }

    private static void eachLeaves(String state, Maker maker) {
        long[] due = shown(maker.make());
        for (Named named : calls) {
            SingleShares x = maker.make();
            checks.due(state + ": " + named.name, named.call.on(x), named.due);
            checks.row(state + " after " + named.name, shown(x), due);
            checks.due(state + ", again: " + named.name, named.call.on(x), named.due);
        }
    }

    /** One after another on one object, as far as its calls go. */
    private static void allAtOnce() {
        calls.clear();
        refusedInEveryState();
        refusedWhenFull();
        long[] due = shown(full());
        SingleShares x = full();
        for (Named named : calls) {
            checks.due("at once: " + named.name, named.call.on(x), named.due);
        }
        checks.holds("the calls of one object are enough", calls.size() + due.length + 20 <= 512);
        checks.row("after all of them", shown(x), due);
    }

    private static void say(String name, long due, Call call) {
        calls.add(new Named(name, due, call));
    }

    private static void refusedInEveryState() {
        say("hold register", Use.BAD, x -> x.hold(8, 1, 3));
        say("hold p", Use.BAD, x -> x.hold(0, 1000001, 3));
        say("hold q", Use.BAD, x -> x.hold(0, 1, 0));
        say("told", Use.BAD, x -> x.told(0, 2));
        say("reckon to", Use.BAD, x -> x.reckon(8, 0, 0, 1));
        say("reckon what", Use.BAD, x -> x.reckon(0, 4, 0, 1));
        say("reckon a", Use.BAD, x -> x.reckon(0, 0, -1, 1));
        say("reckon b", Use.BAD, x -> x.reckon(0, 0, 0, 8));
        say("reckon below 0", Use.NO, x -> x.reckon(1, 1, 0, 3));
        say("reckon by 0", Use.NO, x -> x.reckon(1, 3, 0, 2));
        say("reckon q SPENT", Use.SPENT, x -> x.reckon(4, 2, 4, 7));
        say("reckon p SPENT", Use.SPENT, x -> x.reckon(6, 0, 6, 0));
        say("against", Use.BAD, x -> x.against(0, 8));
        say("road BAD", Use.BAD, x -> x.road(5, 0));
        say("road NO", Use.NO, x -> x.road(Use.GREED, 2));
        say("road NO, even", Use.NO, x -> x.road(Use.ODD, 0));
        say("road SPENT", Use.SPENT, x -> x.road(Use.GREED, 5));
        say("share BAD", Use.BAD, x -> x.share(Use.GREED, 1, -1));
        say("share NO", Use.NO, x -> x.share(Use.GREED, 3, 0));
        say("share SPENT", Use.SPENT, x -> x.share(Use.ODD, 1, 0));
        say("share NONE", Use.NONE, x -> x.share(Use.GREED, 1, 3));
        say("sums register", Use.BAD, x -> x.sums(8, 60, 6));
        say("sums N", Use.BAD, x -> x.sums(0, 61, 6));
        say("sums N 1", Use.BAD, x -> x.sums(0, 1, 6));
        say("sums k", Use.BAD, x -> x.sums(0, 60, 7));
        say("sums k 0", Use.BAD, x -> x.sums(0, 60, 0));
        say("sums of 0", Use.NO, x -> x.sums(2, 60, 6));
        say("sums above 1", Use.NO, x -> x.sums(3, 60, 6));
        say("sum i", Use.BAD, x -> x.sum(-1, 0));
        say("sum j", Use.BAD, x -> x.sum(0, -2));
        say("wish 0", Use.BAD, x -> x.wish(0, 'f'));
        say("wish 9", Use.BAD, x -> x.wish(9, 'f'));
        say("cuts i", Use.BAD, x -> x.cuts(-1, 0));
        say("cuts j", Use.BAD, x -> x.cuts(0, -1));
        say("beside", Use.BAD, x -> x.beside(-1));
        say("multiple BAD", Use.BAD, x -> x.multiple(8));
        say("multiple NO", Use.NO, x -> x.multiple(2));
        say("multiple SPENT", Use.SPENT, x -> x.multiple(5));
        say("divisor BAD", Use.BAD, x -> x.divisor(1, -2));
        say("divisor NO", Use.NO, x -> x.divisor(3, 0));
        say("divisor SPENT", Use.SPENT, x -> x.divisor(5, 0));
        say("divisor NONE", Use.NONE, x -> x.divisor(1, 99));
        say("handy", Use.BAD, x -> x.handy(0));
        say("pairs BAD", Use.BAD, x -> x.pairs(8));
        say("pairs NO", Use.NO, x -> x.pairs(7));
        say("pair BAD", Use.BAD, x -> x.pair(0, -1, 0));
        say("pair part", Use.BAD, x -> x.pair(0, 0, 2));
        say("pair NO", Use.NO, x -> x.pair(7, 0, 0));
        say("pair NONE", Use.NONE, x -> x.pair(1, 99, 0));
        say("threes BAD", Use.BAD, x -> x.threes(-1));
        say("threes NO", Use.NO, x -> x.threes(7));
        say("table BAD", Use.BAD, x -> x.table(61, 40, 4, 0));
        say("table NONE", Use.NONE, x -> x.table(60, 40, 4, 1));
        say("rising", Use.BAD, x -> x.rising(31, 0));
        say("firstAbove", Use.BAD, x -> x.firstAbove(3));
        say("loaves BAD", Use.BAD, x -> x.loaves(Use.GREED, 2, 2, 0));
        say("loaves NO", Use.NO, x -> x.loaves(Use.ODD, 1, 2, 0));
        say("loaves SPENT", Use.SPENT, x -> x.loaves(Use.CUT, 17, 19, 0));
        say("count", Use.BAD, x -> x.count(4));
    }

    private static void refusedWhenFull() {
        say("sum i behind", Use.NONE, x -> x.sum(7, 0));
        say("sum j behind", Use.NONE, x -> x.sum(6, 3));
        say("cuts i behind", Use.NO, x -> x.cuts(7, 0));
        say("cuts j behind", Use.NO, x -> x.cuts(0, 7));
        say("cuts that can't be", Use.NONE, x -> x.cuts(0, 5));
        say("beside behind", Use.NO, x -> x.beside(7));
    }

    private static void askedWhenFull() {
        say("told", 13, x -> x.told(1, 1));
        say("against", 1, x -> x.against(0, 1));
        say("road", 4, x -> x.road(Use.MIDDLES, 1));
        say("share", 468, x -> x.share(Use.GREED, 1, 2));
        say("sum", 24, x -> x.sum(2, 2));
        say("fault", Use.NONE, x -> x.fault());
        say("best", 4, x -> x.best());
        say("cuts", 2, x -> x.cuts(6, 0));
        say("beside", 5, x -> x.beside(1));
        say("multiple", 1, x -> x.multiple(4));
        say("divisor", 1, x -> x.divisor(0, 0));
        say("handy", 1, x -> x.handy(20000));
        say("pairs", 1, x -> x.pairs(4));
        say("pair", 102, x -> x.pair(4, 0, 0));
        say("threes", 6, x -> x.threes(0));
        say("table", 4, x -> x.table(60, 40, 4, 59));
        say("hardest", 6, x -> x.table(7, 40, 4, 0));
        say("rising", 12, x -> x.rising(4, 2));
        say("firstAbove", 11, x -> x.firstAbove(2));
        say("loaves", 39, x -> x.loaves(Use.GREED, 4, 13, 0));
        say("count", 18, x -> x.count(3));
    }

    private static void refusedWhenEmpty() {
        say("sum", Use.NONE, x -> x.sum(0, -1));
        say("best", Use.NONE, x -> x.best());
        say("cuts", Use.NO, x -> x.cuts(0, 0));
        say("beside", Use.NO, x -> x.beside(0));
    }

    private static void refusedWhenUnasked() {
        say("sum", Use.NO, x -> x.sum(0, -1));
        say("best", Use.NO, x -> x.best());
        say("cuts", Use.NO, x -> x.cuts(0, 0));
        say("beside", Use.NO, x -> x.beside(0));
    }
}
