import java.util.ArrayList;
import java.util.List;
import java.util.function.Supplier;
import java.util.function.ToLongFunction;

/** "Of several the first in this order; nothing changes then": each refusal, in each of some states. */
public final class RefusalTest {
    private static final int[] FAR_OFF = {Integer.MIN_VALUE, Integer.MAX_VALUE};
    private static final long[] NO_READERS = {-1, Bench.FAR + 1, Long.MIN_VALUE, Long.MAX_VALUE};

    private interface Call {
        long on(ShufflingBook x, int number);
    }

    private interface ReaderCall {
        long on(ShufflingBook x, long reader);
    }

    private record Refusal(String call, ToLongFunction<ShufflingBook> on, int want) {
    }

    private record State(String name, Supplier<ShufflingBook> made, List<Refusal> refusals) {
    }

    // ---- states

    private static ShufflingBook inTheMiddle() {
        ShufflingBook x = Bench.laid("n5;r3;l2,1;s0,4;s1,2;t4;t1;t0;");
        Bench.write(x, "n7;x");
        x.finish();
        x.read();
        x.change(0, 3);
        x.seen(1, 2, 3);
        x.seen(0, 0, 4);
        x.keep();
        x.read();
        return x;
    }

    private static ShufflingBook full() {
        ShufflingBook x = Bench.laid("n6;r4;l3,2;s0,5;" + "t3;".repeat(20));
        x.wipe();
        Bench.write(x, "n10;".repeat(74) + "r1;x");
        for (int k = 0; k < 12; k++) {
            x.seen(k, 0, x.has(k, 0));
        }
        x.read();
        x.keep();
        x.finish();
        x.drop(12);
        x.read();
        x.read();
        x.keep();
        x.finish();
        return x;
    }

    /** No order has it all right, what was seen fits none, and of five LEAVES four are never had. */
    private static ShufflingBook atOdds() {
        ShufflingBook x = Bench.laid("n5;r3;l0,0;t1;t2;");
        x.wipe();
        Bench.write(x, "n5;s0,5;");
        x.seen(0, 0, 1);
        x.seen(0, 1, 2);
        x.read();
        return x;
    }

    private static List<State> states() {
        List<State> all = new ArrayList<>();
        all.add(new State("new", ShufflingBook::new, List.of(
            new Refusal("back()", x -> x.back(), Bench.NO),
            new Refusal("shows(0, 8)", x -> x.shows(0, 8), Bench.NONE),
            new Refusal("sure(0)", x -> x.sure(0), Bench.NONE),
            new Refusal("lacks(9, 0)", x -> x.lacks(9, 0), Bench.NONE),
            new Refusal("fault()", x -> x.fault(), Bench.NONE))));
        all.add(new State("in the middle", RefusalTest::inTheMiddle, List.of(
            new Refusal("lay()", x -> x.lay(), Bench.NO))));
        all.add(new State("full", RefusalTest::full, List.of(
            new Refusal("write(1, 59)", x -> x.write(1, 59), Bench.FULL),
            new Refusal("write(8, 59)", x -> x.write(8, 59), Bench.FULL),
            new Refusal("lay()", x -> x.lay(), Bench.NO),
            new Refusal("seen(0, 0, 0)", x -> x.seen(0, 0, 0), Bench.FULL),
            new Refusal("seen(1, 3, 5)", x -> x.seen(1, 3, 5), Bench.FULL),
            new Refusal("keep()", x -> x.keep(), Bench.FULL))));
        all.add(new State("at odds", RefusalTest::atOdds, List.of(
            new Refusal("lay()", x -> x.lay(), Bench.NO),
            new Refusal("back()", x -> x.back(), Bench.NO),
            new Refusal("fault()", x -> x.fault(), Bench.NONE),
            new Refusal("order(0, 0)", x -> x.order(0, 0), Bench.NONE),
            new Refusal("order(far, 4)", x -> x.order(Bench.FAR, 4), Bench.NONE),
            new Refusal("shows(0, 0)", x -> x.shows(0, 0), Bench.NONE),
            new Refusal("sure(0)", x -> x.sure(0), Bench.NONE),
            new Refusal("sure(4)", x -> x.sure(4), Bench.NONE),
            new Refusal("lacks(1, 0)", x -> x.lacks(1, 0), Bench.NONE),
            new Refusal("lacks(4, 1)", x -> x.lacks(4, 1), Bench.NONE))));
        return all;
    }

    // ---- wrong numbers

    private static void bad(List<Refusal> all, String call, int lowest, int highest, Call on) {
        for (int number : new int[] {lowest - 1, highest + 1, FAR_OFF[0], FAR_OFF[1]}) {
            all.add(new Refusal(call.replace("#", "" + number), x -> on.on(x, number), Bench.BAD));
        }
    }

    private static void badReader(List<Refusal> all, String call, ReaderCall on) {
        for (long j : NO_READERS) {
            all.add(new Refusal(call.replace("#", "" + j), x -> on.on(x, j), Bench.BAD));
        }
    }

    /** Each number that is none that is told, one nearer and one farther, of n LEAVES, r each. */
    private static List<Refusal> wrongNumbers(int n, int r) {
        List<Refusal> all = new ArrayList<>();
        wrongForThePack(all, n);
        wrongForReaders(all, n, r);
        wrongForOrders(all, n, r);
        wrongForTheLast(all, n);
        return all;
    }

    private static void wrongForThePack(List<Refusal> all, int n) {
        bad(all, "write(#, 59)", 1, 8, (x, k) -> x.write(k, 59));
        bad(all, "leaf(#, 0)", 0, n - 1, (x, p) -> x.leaf(p, 0));
        bad(all, "leaf(#, 1)", 0, n - 1, (x, p) -> x.leaf(p, 1));
        bad(all, "leaf(0, #)", 0, 1, (x, what) -> x.leaf(0, what));
        bad(all, "where(#)", 0, n - 1, (x, v) -> x.where(v));
        bad(all, "change(#, 0)", 0, n - 1, (x, p) -> x.change(p, 0));
        bad(all, "change(0, #)", 0, n - 1, (x, q) -> x.change(0, q));
        bad(all, "change(#, #)", 0, n - 1, (x, p) -> x.change(p, p));
        bad(all, "drop(#)", 0, 9999, (x, z) -> x.drop(z));
    }

    private static void wrongForReaders(List<Refusal> all, int n, int r) {
        badReader(all, "has(#, 0)", (x, j) -> x.has(j, 0));
        bad(all, "has(0, #)", 0, r - 1, (x, i) -> x.has(0, i));
        badReader(all, "has(#, R)", (x, j) -> x.has(j, r));
        badReader(all, "leaves(#)", (x, j) -> x.leaves(j));
        bad(all, "ever(#)", 0, 1, (x, what) -> x.ever(what));
        badReader(all, "right(#)", (x, j) -> x.right(j));
    }

    private static void wrongForOrders(List<Refusal> all, int n, int r) {
        badReader(all, "order(#, 0)", (x, j) -> x.order(j, 0));
        bad(all, "order(0, #)", 0, n - 1, (x, p) -> x.order(0, p));
        badReader(all, "order(#, N)", (x, j) -> x.order(j, n));
        bad(all, "shows(#, 0)", 0, 3, (x, k) -> x.shows(k, 0));
        bad(all, "shows(0, #)", 0, n - 1, (x, a) -> x.shows(0, a));
        bad(all, "shows(3, #)", 0, n - 1, (x, a) -> x.shows(3, a));
        bad(all, "quickest(#)", 0, 2, (x, what) -> x.quickest(what));
        badReader(all, "seen(#, 0, 0)", (x, j) -> x.seen(j, 0, 0));
        bad(all, "seen(0, #, 0)", 0, r - 1, (x, i) -> x.seen(0, i, 0));
        bad(all, "seen(0, 0, #)", 0, n - 1, (x, v) -> x.seen(0, 0, v));
        bad(all, "sure(#)", 0, n - 1, (x, p) -> x.sure(p));
    }

    private static void wrongForTheLast(List<Refusal> all, int n) {
        bad(all, "lacks(#, 0)", 0, n - 1, (x, v) -> x.lacks(v, 0));
        bad(all, "lacks(#, 1)", 0, n - 1, (x, v) -> x.lacks(v, 1));
        bad(all, "lacks(0, #)", 0, 1, (x, what) -> x.lacks(0, what));
        bad(all, "lacks(N less 1, #)", 0, 1, (x, what) -> x.lacks(n - 1, what));
        bad(all, "notice(#, 1, 9)", 0, n - 1, (x, a) -> x.notice(a, 1, 9));
        bad(all, "notice(0, #, 9)", 0, n - 1, (x, b) -> x.notice(0, b, 9));
        bad(all, "notice(#, #, 0)", 0, n - 1, (x, a) -> x.notice(a, a, 0));
        bad(all, "notice(0, 1, #)", 0, 1000, (x, readers) -> x.notice(0, 1, readers));
        bad(all, "notice(1, 1, #)", 0, 1000, (x, readers) -> x.notice(1, 1, readers));
        bad(all, "pleased(#, 0)", 1, 100, (x, j) -> x.pleased(j, 0));
        bad(all, "pleased(#, 1)", 1, 100, (x, j) -> x.pleased(j, 1));
        bad(all, "pleased(1, #)", 0, 1, (x, what) -> x.pleased(1, what));
        bad(all, "count(#)", 0, 7, (x, what) -> x.count(what));
    }

    // ---- tests

    private static void refusedAndUnchanged(State state, List<Refusal> refusals) {
        Answers want = Answers.of(state.made.get());
        for (Refusal refusal : refusals) {
            ShufflingBook x = state.made.get();
            Bench.due(state.name + ": " + refusal.call, refusal.on.applyAsLong(x), refusal.want);
            Answers.of(x).due(state.name + ": " + refusal.call + ", behind it", want);
        }
    }

    private static void badChangesNothing() {
        for (State state : states()) {
            ShufflingBook x = state.made.get();
            refusedAndUnchanged(state, wrongNumbers(x.count(0), x.count(1)));
        }
    }

    private static void othersChangeNothing() {
        for (State state : states()) {
            refusedAndUnchanged(state, state.refusals);
        }
    }

    /** PLACES of THE PACK change by no other calls; nor does anything else by what only asks. */
    private static void askingChangesNothing() {
        for (State state : states()) {
            ShufflingBook x = state.made.get();
            Answers asked = Answers.of(x);
            Answers.used(state.made.get()).dueLast(state.name + ", nothing asked before,", asked);
        }
    }

    private static void badAheadOfFull() {
        ShufflingBook x = full();
        Bench.due("FULL alone: write(1, 0)", x.write(1, 0), Bench.FULL);
        Bench.due("write(0, 0)", x.write(0, 0), Bench.BAD);
        Bench.due("write(9, 0)", x.write(9, 0), Bench.BAD);
        Bench.due("FULL alone: seen(0, 3, 5)", x.seen(0, 3, 5), Bench.FULL);
        Bench.due("seen(-1, 3, 5)", x.seen(-1, 3, 5), Bench.BAD);
        Bench.due("seen(10 to the 12th and 1, 3, 5)", x.seen(Bench.FAR + 1, 3, 5), Bench.BAD);
        Bench.due("seen(0, -1, 5)", x.seen(0, -1, 5), Bench.BAD);
        Bench.due("seen(0, 4, 5)", x.seen(0, 4, 5), Bench.BAD);
        Bench.due("seen(0, 3, -1)", x.seen(0, 3, -1), Bench.BAD);
        Bench.due("seen(0, 3, 6)", x.seen(0, 3, 6), Bench.BAD);
    }

    private static void badAheadOfNone() {
        ShufflingBook x = atOdds();
        Bench.due("NONE alone: order(0, 4)", x.order(0, 4), Bench.NONE);
        Bench.due("order(-1, 4)", x.order(-1, 4), Bench.BAD);
        Bench.due("order(10 to the 12th and 1, 4)", x.order(Bench.FAR + 1, 4), Bench.BAD);
        Bench.due("order(0, -1)", x.order(0, -1), Bench.BAD);
        Bench.due("order(0, 5)", x.order(0, 5), Bench.BAD);
        Bench.due("NONE alone: shows(0, 3)", x.shows(0, 3), Bench.NONE);
        Bench.due("shows(-1, 3)", x.shows(-1, 3), Bench.BAD);
        Bench.due("shows(0, -1)", x.shows(0, -1), Bench.BAD);
        Bench.due("NONE alone: sure(4)", x.sure(4), Bench.NONE);
        Bench.due("sure(-1)", x.sure(-1), Bench.BAD);
        Bench.due("sure(5)", x.sure(5), Bench.BAD);
        Bench.due("NONE alone: lacks(4, 1)", x.lacks(4, 1), Bench.NONE);
        Bench.due("lacks(4, 2)", x.lacks(4, 2), Bench.BAD);
        Bench.due("lacks(4, -1)", x.lacks(4, -1), Bench.BAD);
        Bench.due("lacks(5, 1)", x.lacks(5, 1), Bench.BAD);
        Bench.due("lacks(-1, 1)", x.lacks(-1, 1), Bench.BAD);
    }

    public static void main(String[] args) {
        Bench.sentence("BAD: a number is none that is told (LEAVES, PLACES below N); nothing changes then",
            RefusalTest::badChangesNothing);
        Bench.sentence("NO: not as things stand. NONE: there is none. FULL; nothing changes then",
            RefusalTest::othersChangeNothing);
        Bench.sentence("PLACES of THE PACK change by READINGS alone, by two that are changed by hand, and by DROPPING",
            RefusalTest::askingChangesNothing);
        Bench.sentence("Of several the first in this order: BAD ahead of FULL", RefusalTest::badAheadOfFull);
        Bench.sentence("Of several the first in this order: BAD ahead of NONE", RefusalTest::badAheadOfNone);
        Bench.end();
    }
}
