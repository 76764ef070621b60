import java.util.Arrays;
import java.util.List;
import java.util.Random;
import java.util.function.Supplier;
import java.util.stream.IntStream;
import java.util.stream.LongStream;

/**
 * Each call with each of its numbers from a long row, all together, in states of all kinds: it answers BAD if a number
 * is none that is told, else what it may answer, and never throws.
 */
public final class AnyArgumentsTest {
    private static final int[] INTS = {
        Integer.MIN_VALUE, Integer.MIN_VALUE + 1, -65521, -41, -2, -1, 0, 1, 2, 3, 4, 7, 8, 9, 10, 11, 12, 13, 20, 31, 32,
        39, 40, 41, 64, 99, 100, 101, 299, 300, 999, 1000, 1001, 9999, 10000, 65521, Integer.MAX_VALUE - 1,
        Integer.MAX_VALUE
    };
    private static final long[] LONGS = {
        Long.MIN_VALUE, Long.MIN_VALUE + 1, -Bench.FAR, -(1L << 32), -1, 0, 1, 39, 1L << 31, 1L << 32, (1L << 32) + 1,
        Bench.FAR - 1, Bench.FAR, Bench.FAR + 1, Bench.FAR + (1L << 32), 1L << 62, Long.MAX_VALUE - 1, Long.MAX_VALUE
    };
    private static final int MOST_CALLS = 300;

    /** An object in one state, made anew before it has had too many calls, or when a call has changed it. */
    private static final class Desk {
        final Supplier<ShufflingBook> made;
        final int n, r, tale, seen, kept, text;
        final long all;
        ShufflingBook x;
        int calls;

        Desk(Supplier<ShufflingBook> made) {
            this.made = made;
            x = made.get();
            n = x.count(0);
            r = x.count(1);
            tale = x.count(2);
            seen = x.count(5);
            kept = x.count(6);
            text = x.count(7);
            all = (1L << n) - 1;
        }

        ShufflingBook same() {
            if (calls++ == MOST_CALLS) {
                anew();
            }
            return x;
        }

        ShufflingBook anew() {
            x = made.get();
            calls = 0;
            return x;
        }

        boolean below(int v) {
            return within(v, 0, n - 1);
        }

        boolean turn(int i) {
            return within(i, 0, r - 1);
        }
    }

    private static boolean within(long x, long lowest, long highest) {
        return x >= lowest && x <= highest;
    }

    private static boolean reader(long j) {
        return within(j, 0, Bench.FAR);
    }

    // ---- states

    private static ShufflingBook used(String laid, String written) {
        ShufflingBook x = Bench.laid(laid);
        x.wipe();
        Bench.write(x, written);
        x.finish();
        x.drop(77);
        x.read();
        x.keep();
        x.change(0, 1);
        return x;
    }

    private static ShufflingBook full() {
        ShufflingBook x = used("n40;r40;l2,17;s0,39;" + "t39;".repeat(20), "n10;".repeat(75));
        for (int k = 0; k < 12; k++) {
            x.seen(k, k, k);
        }
        x.keep();
        return x;
    }

    private static List<Supplier<ShufflingBook>> states() {
        return List.of(ShufflingBook::new, AnyArgumentsTest::full, () -> used("n2;r1;l3,39;s0,1;t1;", "n1"),
            () -> used("n2;r40;l0,0;t0;t1;", "\0\377"), () -> used("n7;r3;l2,39;t6;t6;", ""),
            () -> used("n40;r1;l1,0;t39;", "n40;s39,39;"));
    }

    // ---- calls

    private static int[] ints(Desk desk) {
        int[] own = {desk.n - 1, desk.n, desk.n + 1, desk.r - 1, desk.r, desk.r + 1};
        return IntStream.concat(Arrays.stream(INTS), Arrays.stream(own)).distinct().toArray();
    }

    private static long[] readers(Desk desk) {
        return LongStream.concat(Arrays.stream(LONGS), LongStream.of(desk.n, desk.r)).distinct().toArray();
    }

    private static void dueIfTold(String call, long got, boolean told, boolean allowed) {
        if (told) {
            Bench.due(call + " answered " + got + ": allowed", allowed ? 1 : 0, 1);
        } else {
            Bench.due(call, got, Bench.BAD);
        }
    }

    private static void dueWithin(String call, long got, boolean told, long lowest, long highest) {
        dueIfTold(call, got, told, within(got, lowest, highest));
    }

    private static void dueOrNone(String call, long got, boolean told, long lowest, long highest) {
        dueIfTold(call, got, told, got == Bench.NONE || within(got, lowest, highest));
    }

    private static void oneNumber(Desk desk) {
        for (int v : ints(desk)) {
            String with = "(" + v + ")";
            dueWithin("where" + with, desk.same().where(v), desk.below(v), 0, desk.n - 1);
            dueWithin("ever" + with, desk.same().ever(v), within(v, 0, 1), 0, desk.all);
            dueWithin("quickest" + with, desk.same().quickest(v), within(v, 0, 2), 0, desk.n);
            dueOrNone("sure" + with, desk.same().sure(v), desk.below(v), 0, desk.n - 1);
            dueWithin("count" + with, desk.same().count(v), within(v, 0, 7), 0, 512);
            dueWithin("drop" + with, desk.anew().drop(v), within(v, 0, 9999), 0, desk.n - 1);
        }
        desk.anew();
    }

    private static void twoNumbers(Desk desk) {
        int right = Math.min(desk.tale, desk.r);
        for (int a : ints(desk)) {
            for (int b : ints(desk)) {
                String with = "(" + a + ", " + b + ")";
                boolean what = within(b, 0, 1);
                boolean both = desk.below(a) && desk.below(b);
                dueWithin("leaf" + with, desk.same().leaf(a, b), desk.below(a) && what, 0, desk.n - 1);
                dueWithin("change" + with, desk.same().change(a, b), both, 0, desk.n - 1);
                dueOrNone("shows" + with, desk.same().shows(a, b), within(a, 0, 3) && desk.below(b), desk.n,
                    2 * desk.n - 1);
                dueOrNone("lacks" + with, desk.same().lacks(a, b), desk.below(a) && what, 0, b == 0 ? 39 : desk.r - 1);
                dueWithin("pleased" + with, desk.same().pleased(a, b), within(a, 1, 100) && what, 0,
                    b == 0 ? desk.n - 1 : right);
            }
        }
    }

    private static void aReader(Desk desk) {
        for (long j : readers(desk)) {
            String one = "(" + j + ")";
            dueWithin("leaves" + one, desk.same().leaves(j), reader(j), 1, desk.all);
            dueWithin("right" + one, desk.same().right(j), reader(j), 0, Math.min(desk.tale, desk.r));
            for (int i : ints(desk)) {
                String with = "(" + j + ", " + i + ")";
                dueWithin("has" + with, desk.same().has(j, i), reader(j) && desk.turn(i), 0, desk.n - 1);
                dueOrNone("order" + with, desk.same().order(j, i), reader(j) && desk.below(i), 0, desk.n - 1);
            }
        }
    }

    private static void written(Desk desk) {
        for (int n : ints(desk)) {
            int due = !within(n, 1, 8) ? Bench.BAD : desk.text + n > 300 ? Bench.FULL : desk.text + n;
            for (long v : LONGS) {
                Bench.due("write(" + n + ", " + v + ")", desk.anew().write(n, v), due);
            }
        }
    }

    private static void sight(Desk desk) {
        int due = desk.seen == 12 ? Bench.FULL : desk.seen + 1;
        for (long j : readers(desk)) {
            for (int i : ints(desk)) {
                for (int v : ints(desk)) {
                    boolean told = reader(j) && desk.turn(i) && desk.below(v);
                    int got = desk.same().seen(j, i, v);
                    Bench.due("seen(" + j + ", " + i + ", " + v + ")", got, told ? due : Bench.BAD);
                    if (got > 0) {
                        Bench.due("so() behind it", desk.same().so() >> 1, 0);
                        desk.anew();
                    }
                }
            }
        }
    }

    private static void noticed(Desk desk) {
        for (int a : ints(desk)) {
            for (int b : ints(desk)) {
                for (int n : ints(desk)) {
                    boolean told = desk.below(a) && desk.below(b) && within(n, 0, 1000);
                    int got = desk.same().notice(a, b, n);
                    dueWithin("notice(" + a + ", " + b + ", " + n + ")", got, told, 0, a == b ? 0 : n);
                }
            }
        }
    }

    private static void noNumber(Desk desk) {
        dueWithin("period()", desk.same().period(), true, 1, 15120);
        dueWithin("so()", desk.same().so(), true, 0, 1);
        dueOrNone("fault()", desk.same().fault(), true, 0, desk.text - 1);
        dueWithin("read()", desk.anew().read(), true, 0, desk.n - 1);
        dueWithin("finish()", desk.anew().finish(), true, 1, desk.r);
        dueWithin("forget()", desk.anew().forget(), true, desk.seen, desk.seen);
        dueWithin("wipe()", desk.anew().wipe(), true, desk.text, desk.text);
        Bench.due("keep()", desk.anew().keep(), desk.kept == 2 ? Bench.FULL : desk.kept + 1);
        Bench.due("back()", desk.anew().back(), desk.kept == 0 ? Bench.NO : desk.kept - 1);
        int laid = desk.anew().lay();
        Bench.due("lay() that is neither NO nor 2 to 40", laid == Bench.NO || within(laid, 2, 40) ? 1 : 0, 1);
    }

    private static void eachCall() {
        for (Supplier<ShufflingBook> made : states()) {
            Desk desk = new Desk(made);
            oneNumber(desk);
            twoNumbers(desk);
            aReader(desk);
            written(desk);
            sight(desk);
            desk.anew();
            noticed(desk);
            noNumber(desk);
        }
    }

    /** Bytes of all kinds, and such as a text has, from a fixed seed. */
    private static void anyBytes() {
        Random random = new Random(1);
        String signs = "nrlst01234,;;;";
        for (int run = 0; run < 3000; run++) {
            ShufflingBook x = new ShufflingBook();
            int length = random.nextInt(301);
            for (int k = 0; k < length; k++) {
                int of = run % 2 == 0 ? random.nextInt(256) : signs.charAt(random.nextInt(signs.length()));
                x.write(1, of);
            }
            int fault = x.fault();
            int laid = x.lay();
            Bench.due("length", x.count(7), length);
            dueOrNone("fault()", fault, true, 0, length - 1);
            Bench.due("laid with a fault", fault != Bench.NONE && laid != Bench.NO ? 1 : 0, 0);
            Bench.due("count(0)", x.count(0), laid == Bench.NO ? 10 : laid);
        }
    }

    public static void main(String[] args) {
        Bench.sentence("no call may ever throw or fail to end, for any arguments in any state; BAD",
            AnyArgumentsTest::eachCall);
        Bench.sentence("A TEXT is bytes: FAULT, LAID, NO, of any", AnyArgumentsTest::anyBytes);
        Bench.end();
    }
}
