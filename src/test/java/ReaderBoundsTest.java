/** Each sentence of "Terms" 2 that names a bound of the READERS; promises 12 to 16. */
public final class ReaderBoundsTest {
    private static final long[] NO_READERS = {
        -1, Bench.FAR + 1, Long.MIN_VALUE, Long.MAX_VALUE, -(1L << 32), 1L << 62
    };

    /** UNDER, one each: the READER's number modulo N is his LEAF. Some are too far for an int. */
    private static void readersToTenToTheTwelfth() {
        long[] readers = {0, 1, 1L << 31, 1L << 32, (1L << 32) + 1, Bench.FAR - 1, Bench.FAR};
        for (int n = 2; n <= 40; n++) {
            ShufflingBook x = Bench.laid("n" + n + ";r1;l1,0;t1;");
            for (long j : readers) {
                int leaf = (int) (j % n);
                Bench.due("of " + n + ": has(" + j + ", 0)", x.has(j, 0), leaf);
                Bench.due("of " + n + ": leaves(" + j + ")", x.leaves(j), 1L << leaf);
                Bench.due("of " + n + ": right(" + j + ")", x.right(j), leaf == 1 ? 1 : 0);
                Bench.due("of " + n + ": order(" + j + ", his place)", x.order(j, leaf), 1);
                x.forget();
                Bench.due("of " + n + ": seen(" + j + ", 0, 0)", x.seen(j, 0, 0), 1);
                Bench.due("of " + n + ": sure(his place)", x.sure(leaf), 0);
            }
        }
    }

    private static void noReaders() {
        ShufflingBook x = Bench.laid("n5;r3;l1,0;t0;");
        for (long j : NO_READERS) {
            Bench.due("has(" + j + ", 0)", x.has(j, 0), Bench.BAD);
            Bench.due("leaves(" + j + ")", x.leaves(j), Bench.BAD);
            Bench.due("right(" + j + ")", x.right(j), Bench.BAD);
            Bench.due("order(" + j + ", 0)", x.order(j, 0), Bench.BAD);
            Bench.due("seen(" + j + ", 0, 0)", x.seen(j, 0, 0), Bench.BAD);
        }
        Bench.due("nothing seen", x.count(5), 0);
    }

    private static void howManieths() {
        for (int r = 1; r <= 40; r++) {
            ShufflingBook x = Bench.laid("n40;r" + r + ";l1,0;");
            for (int i = 0; i < r; i++) {
                Bench.due("R " + r + ": has(0, " + i + ")", x.has(0, i), i);
                Bench.due("R " + r + ": has(1, " + i + ")", x.has(1, i), (r + i) % 40);
            }
            Bench.due("R " + r + ": seen the first", x.seen(0, 0, 7), 1);
            Bench.due("R " + r + ": seen the last", x.seen(0, r - 1, r == 1 ? 7 : 8), 2);
            Bench.due("R " + r + ": sure(R less 1)", x.sure(r - 1), r == 1 ? 7 : 8);
            for (int i : new int[] {-1, r, r + 1, 40, Integer.MIN_VALUE, Integer.MAX_VALUE}) {
                Bench.due("R " + r + ": has(0, " + i + ")", x.has(0, i), Bench.BAD);
                Bench.due("R " + r + ": seen(0, " + i + ", 0)", x.seen(0, i, 0), Bench.BAD);
            }
        }
    }

    private static void oneBehindTheOther() {
        int[] counts = {2, 3, 4, 5, 8, 9, 39, 40};
        int[] each = {1, 2, 3, 4, 5, 9, 39, 40};
        for (int n : counts) {
            for (int r : each) {
                for (int k = 0; k <= 3; k++) {
                    for (int a : new int[] {0, 1, n - 2, n - 1}) {
                        dueOneBehindTheOther(n, r, k, a);
                    }
                }
            }
        }
    }

    private static void dueOneBehindTheOther(int n, int r, int k, int a) {
        String text = "n" + n + ";r" + r + ";l" + k + "," + a + ";";
        ShufflingBook x = Bench.laid(text);
        int[] order = Bench.numbered(n);
        for (int m = 0; m < 2 * r + 2; m++) {
            int leaf = Bench.reading(order, k, a, m % r);
            Bench.due(text + " reading " + m, x.read(), leaf);
            Bench.due(text + " has(" + m / r + ", " + m % r + ")", x.has(m / r, m % r), leaf);
        }
    }

    private static void leavesAsBits() {
        for (int n = 2; n <= 40; n++) {
            long all = (1L << n) - 1;
            Bench.due("all of " + n, Bench.laid("n" + n + ";r40;l1,0;").leaves(0), all);
            Bench.due("the last of " + n, Bench.laid("n" + n + ";r1;l1,0;").leaves(n - 1), 1L << n - 1);
            Bench.due("all but the first of " + n, Bench.laid("n" + n + ";r" + (n - 1) + ";l1,0;s0," + (n - 1)
                + ";").leaves(0), all - 1);
        }
        Bench.due("one leaf, forty times", Bench.laid("n40;r40;l0,0;s0,39;").leaves(Bench.FAR), 1L << 39);
    }

    private static int periodOf(int n, int r, int k, int a) {
        int[] order = Bench.numbered(n);
        for (int j = 1; ; j++) {
            for (int i = 0; i < r; i++) {
                Bench.reading(order, k, a, i);
            }
            if (java.util.Arrays.equals(order, Bench.numbered(n))) {
                return j;
            }
        }
    }

    private static void period() {
        Bench.due("none moves", Bench.laid("n5;r7;l0,0;").period(), 1);
        Bench.due("round once", Bench.laid("n5;r5;l1,0;").period(), 1);
        Bench.due("round eight times", Bench.laid("n5;r40;l1,0;").period(), 1);
        Bench.due("the slowest UNDER", Bench.laid("n40;r39;l1,0;").period(), 40);
        Bench.due("CUT of forty", Bench.laid("n40;r1;l3,0;").period(), 2);
        Bench.due("CUT of 39", Bench.laid("n39;r1;l3,0;").period(), 39);
        for (int n = 2; n <= 40; n++) {
            for (int r = 1; r <= 40; r++) {
                Bench.due("UNDER of " + n + ", R " + r, Bench.laid("n" + n + ";r" + r + ";l1,0;").period(),
                    n / Bench.commonDivisor(n, r));
                Bench.due("CUT of " + n + ", R " + r, Bench.laid("n" + n + ";r" + r + ";l3,0;").period(),
                    n / Bench.commonDivisor(n, n / 2 * r));
            }
        }
        for (int n = 2; n <= 9; n++) {
            for (int r = 1; r <= 10; r++) {
                for (int a = 0; a < n; a++) {
                    Bench.due("TURNS " + a + " of " + n + ", R " + r,
                        Bench.laid("n" + n + ";r" + r + ";l2," + a + ";").period(), periodOf(n, r, 2, a));
                }
            }
        }
    }

    /** DOWN: the LEAVES at PLACES 0 to A go round, none else ever comes to the top. */
    private static void neverAndAlways() {
        for (int n : new int[] {2, 3, 31, 32, 33, 40}) {
            for (int a = 0; a < n; a++) {
                for (int r : new int[] {1, Math.max(a, 1), a + 1, 40}) {
                    ShufflingBook x = Bench.laid("n" + n + ";r" + r + ";l0," + a + ";");
                    String of = "DOWN " + a + " of " + n + ", R " + r + ": ";
                    long round = (1L << a + 1) - 1;
                    Bench.due(of + "ever(0)", x.ever(0), (1L << n) - 1 - round);
                    Bench.due(of + "ever(1)", x.ever(1), r > a ? round : 0);
                }
            }
        }
        ShufflingBook x = new ShufflingBook();
        for (int what : new int[] {-1, 2, Integer.MIN_VALUE, Integer.MAX_VALUE}) {
            Bench.due("ever(" + what + ")", x.ever(what), Bench.BAD);
        }
    }

    private static void rightBelowBoth() {
        for (int r = 1; r <= 40; r++) {
            for (int told = 0; told <= 20; told++) {
                ShufflingBook x = Bench.laid("n40;r" + r + ";l0,0;" + "t0;".repeat(told));
                Bench.due("R " + r + ", " + told + " told: right(0)", x.right(0), Math.min(r, told));
                Bench.due("R " + r + ", " + told + " told: right far off", x.right(Bench.FAR), Math.min(r, told));
            }
        }
        Bench.due("the last alone", Bench.laid("n4;r3;l1,0;t3;t3;t2;").right(0), 1);
        Bench.due("the first alone", Bench.laid("n4;r3;l1,0;t0;t3;t3;").right(0), 1);
        Bench.due("right behind R alone", Bench.laid("n4;r3;l1,0;t3;t3;t3;t3;").right(0), 0);
        Bench.due("not the next reader's first", Bench.laid("n4;r1;l1,0;t0;t1;").right(0), 1);
    }

    private static void fromTheFirstOrderOn() {
        ShufflingBook x = Bench.laid("n4;r2;l1,0;");
        x.read();
        x.change(0, 1);
        x.drop(7);
        x.finish();
        Bench.due("has(0, 0)", x.has(0, 0), 0);
        Bench.due("has(0, 1)", x.has(0, 1), 1);
        Bench.due("has(1, 0)", x.has(1, 0), 2);
    }

    public static void main(String[] args) {
        Bench.sentence("READERS are 0, 1, .. (to 1000000000000, 10 to the 12th)",
            ReaderBoundsTest::readersToTenToTheTwelfth);
        Bench.sentence("12, 13, 16, 17, 20: BAD, by a READER that is none", ReaderBoundsTest::noReaders);
        Bench.sentence("as the i-th (0 to R less 1); 12, 20: BAD", ReaderBoundsTest::howManieths);
        Bench.sentence("THE PACK is read LEAF by LEAF; the next one begins", ReaderBoundsTest::oneBehindTheOther);
        Bench.sentence("From the FIRST ORDER on", ReaderBoundsTest::fromTheFirstOrderOn);
        Bench.sentence("LEAVES of a READER, as bits", ReaderBoundsTest::leavesAsBits);
        Bench.sentence("PERIOD: the fewest READERS (1 or more)", ReaderBoundsTest::period);
        Bench.sentence("NEVER: that no READER ever has; ALWAYS: those that each has; 15: BAD",
            ReaderBoundsTest::neverAndAlways);
        Bench.sentence("RIGHT: of how many i (below R and how long the TALE is)", ReaderBoundsTest::rightBelowBoth);
        Bench.end();
    }
}
