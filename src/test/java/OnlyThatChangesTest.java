import java.util.ArrayList;
import java.util.LinkedHashMap;
import java.util.List;
import java.util.Map;
import java.util.Set;
import java.util.function.Consumer;
import java.util.function.Supplier;

/** "Nothing is promised beyond the answers and state changes described above": what a call does not tell stays. */
public final class OnlyThatChangesTest {
    private static final String TEXT = "THE TEXT", LAID = "what is LAID", PACK = "THE PACK";
    private static final String READ = "how many the READER has read", DONE = "READERS that have done";
    private static final String SEEN = "SEEN", KEPT = "KEPT";

    private record Call(String name, Consumer<ShufflingBook> on, Set<String> mayChange) {
    }

    // ---- states

    private static ShufflingBook inTheMiddle() {
        ShufflingBook x = Bench.laid("n5;r3;l2,1;s0,4;s1,2;t4;t1;t0;");
        x.wipe();
        Bench.write(x, "n7;s0,6;");
        x.finish();
        x.read();
        x.change(0, 3);
        x.seen(1, 2, 3);
        x.keep();
        x.finish();
        x.read();
        return x;
    }

    private static ShufflingBook nearlyFull() {
        ShufflingBook x = Bench.laid("n6;r4;l3,2;s0,5;" + "t3;".repeat(20));
        x.wipe();
        Bench.write(x, "n10;".repeat(72) + "n9;");
        for (int k = 0; k < 11; k++) {
            x.seen(k, 0, x.has(k, 0));
        }
        x.drop(12);
        x.read();
        x.keep();
        x.finish();
        x.finish();
        return x;
    }

    private static ShufflingBook atOdds() {
        ShufflingBook x = Bench.laid("n4;r1;l1,0;t1;t2;");
        x.seen(0, 0, 1);
        x.seen(0, 0, 2);
        x.read();
        x.keep();
        x.read();
        x.keep();
        x.read();
        return x;
    }

    // ---- what there is of a state

    private static Map<String, List<Long>> parts(ShufflingBook x) {
        Map<String, List<Long>> parts = new LinkedHashMap<>();
        parts.put(LAID, laid(x));
        parts.put(PACK, pack(x));
        parts.put(READ, List.of((long) x.count(3)));
        parts.put(DONE, List.of((long) x.count(4)));
        parts.put(SEEN, seen(x));
        parts.put(KEPT, kept(x));
        parts.put(TEXT, text(x));
        return parts;
    }

    private static List<Long> laid(ShufflingBook x) {
        List<Long> all = new ArrayList<>();
        int n = x.count(0);
        int r = x.count(1);
        all.add((long) n);
        all.add((long) r);
        all.add((long) x.count(2));
        for (int p = 0; p < n; p++) {
            all.add((long) x.leaf(p, 1));
            all.add((long) x.order(1, p));
            all.add((long) x.pleased(2, p % 2));
        }
        for (int m = 0; m < 3 * r; m++) {
            all.add((long) x.has(m / r, m % r));
        }
        all.add((long) x.right(0));
        return all;
    }

    private static List<Long> pack(ShufflingBook x) {
        List<Long> all = new ArrayList<>();
        for (int p = 0; p < x.count(0); p++) {
            all.add((long) x.leaf(p, 0));
            all.add((long) x.where(p));
        }
        return all;
    }

    private static List<Long> seen(ShufflingBook x) {
        List<Long> all = new ArrayList<>();
        all.add((long) x.count(5));
        all.add((long) x.so());
        for (int p = 0; p < x.count(0); p++) {
            all.add((long) x.sure(p));
        }
        return all;
    }

    private static List<Long> kept(ShufflingBook x) {
        List<Long> all = new ArrayList<>();
        int kept = x.count(6);
        all.add((long) kept);
        for (int k = 0; k < kept; k++) {
            all.add((long) x.back());
            all.addAll(pack(x));
            all.add((long) x.count(3));
            all.add((long) x.count(4));
        }
        return all;
    }

    private static List<Long> text(ShufflingBook x) {
        List<Long> all = new ArrayList<>();
        all.add((long) x.count(7));
        all.add((long) x.fault());
        all.add((long) x.lay());
        all.addAll(laid(x));
        return all;
    }

    // ---- calls

    private static List<Call> changingCalls() {
        return List.of(new Call("write(3, r5;)", x -> x.write(3, 0x72353BL), Set.of(TEXT)),
            new Call("wipe()", x -> x.wipe(), Set.of(TEXT)),
            new Call("lay()", x -> x.lay(), Set.of(LAID, PACK, READ, DONE, SEEN, KEPT)),
            new Call("read()", x -> x.read(), Set.of(PACK, READ, DONE)),
            new Call("finish()", x -> x.finish(), Set.of(PACK, READ, DONE)),
            new Call("change(0, 1)", x -> x.change(0, 1), Set.of(PACK)),
            new Call("drop(5)", x -> x.drop(5), Set.of(PACK, READ)),
            new Call("seen(0, 0, 0)", x -> x.seen(0, 0, 0), Set.of(SEEN)),
            new Call("forget()", x -> x.forget(), Set.of(SEEN)),
            new Call("keep()", x -> x.keep(), Set.of(KEPT)),
            new Call("back()", x -> x.back(), Set.of(PACK, READ, DONE, KEPT)));
    }

    private static List<Call> askingCalls() {
        return List.of(asking("fault()", x -> x.fault()), asking("leaf(1, 0)", x -> x.leaf(1, 0)),
            asking("leaf(1, 1)", x -> x.leaf(1, 1)), asking("where(1)", x -> x.where(1)),
            asking("has(9, 0)", x -> x.has(9, 0)), asking("leaves(9)", x -> x.leaves(9)),
            asking("period()", x -> x.period()), asking("ever(0)", x -> x.ever(0)),
            asking("ever(1)", x -> x.ever(1)), asking("right(9)", x -> x.right(9)),
            asking("order(9, 1)", x -> x.order(9, 1)), asking("shows(2, 1)", x -> x.shows(2, 1)),
            asking("quickest(0)", x -> x.quickest(0)), asking("so()", x -> x.so()),
            asking("sure(1)", x -> x.sure(1)), asking("lacks(1, 0)", x -> x.lacks(1, 0)),
            asking("notice(0, 1, 9)", x -> x.notice(0, 1, 9)), asking("pleased(9, 0)", x -> x.pleased(9, 0)),
            asking("count(4)", x -> x.count(4)));
    }

    private static Call asking(String name, Consumer<ShufflingBook> on) {
        return new Call(name, on, Set.of());
    }

    // ---- tests

    private static void dueTheRest(Supplier<ShufflingBook> made, Call call) {
        Map<String, List<Long>> before = parts(made.get());
        ShufflingBook x = made.get();
        call.on.accept(x);
        Map<String, List<Long>> after = parts(x);
        for (String part : before.keySet()) {
            if (!call.mayChange.contains(part)) {
                Bench.due(call.name + " leaves as it is: " + part, after.get(part).equals(before.get(part)) ? 1 : 0, 1);
            }
        }
    }

    private static void inEachState(List<Call> calls) {
        for (Call call : calls) {
            dueTheRest(ShufflingBook::new, call);
            dueTheRest(OnlyThatChangesTest::inTheMiddle, call);
            dueTheRest(OnlyThatChangesTest::nearlyFull, call);
            dueTheRest(OnlyThatChangesTest::atOdds, call);
        }
    }

    public static void main(String[] args) {
        Bench.sentence("Nothing is promised beyond the state changes described above, of calls that change something",
            () -> inEachState(changingCalls()));
        Bench.sentence("Nothing is promised beyond the state changes described above, of calls that only answer",
            () -> inEachState(askingCalls()));
        Bench.end();
    }
}
