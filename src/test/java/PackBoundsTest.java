/** Each sentence on THE PACK, its READINGS, DROPPED and KEPT that names a bound; promises 6 to 11, 27 and 28. */
public final class PackBoundsTest {
    private static final int[] FAR_OFF = {-2, 1000, Integer.MIN_VALUE, Integer.MAX_VALUE};

    private static void placesBelowN() {
        for (int n = 2; n <= 40; n++) {
            ShufflingBook x = Bench.laid("n" + n + ";");
            for (int p = -1; p <= n; p++) {
                boolean right = p >= 0 && p < n;
                Bench.due("of " + n + ": leaf(" + p + ", 0)", x.leaf(p, 0), right ? p : Bench.BAD);
                Bench.due("of " + n + ": leaf(" + p + ", 1)", x.leaf(p, 1), right ? p : Bench.BAD);
            }
            for (int p : FAR_OFF) {
                Bench.due("of " + n + ": leaf(" + p + ", 0)", x.leaf(p, 0), Bench.BAD);
                Bench.due("of " + n + ": leaf(" + p + ", 1)", x.leaf(p, 1), Bench.BAD);
            }
        }
    }

    private static void packOrFirstOrder() {
        ShufflingBook x = Bench.laid("n2;l1,0;");
        x.read();
        int[] first = {0, 1};
        for (int p = 0; p < 2; p++) {
            Bench.due("leaf(" + p + ", 0)", x.leaf(p, 0), 1 - first[p]);
            Bench.due("leaf(" + p + ", 1)", x.leaf(p, 1), first[p]);
            for (int what : new int[] {-1, 2, Integer.MIN_VALUE, Integer.MAX_VALUE}) {
                Bench.due("leaf(" + p + ", " + what + ")", x.leaf(p, what), Bench.BAD);
            }
        }
    }

    private static void leavesBelowN() {
        for (int n = 2; n <= 40; n++) {
            ShufflingBook x = Bench.laid("n" + n + ";s0," + (n - 1) + ";");
            for (int v = -1; v <= n; v++) {
                int place = v == 0 ? n - 1 : v == n - 1 ? 0 : v;
                Bench.due("of " + n + ": where(" + v + ")", x.where(v), v >= 0 && v < n ? place : Bench.BAD);
            }
            for (int v : FAR_OFF) {
                Bench.due("of " + n + ": where(" + v + ")", x.where(v), Bench.BAD);
            }
        }
    }

    private static void changed() {
        for (int n = 2; n <= 40; n++) {
            ShufflingBook x = Bench.laid("n" + n + ";");
            Bench.due("the first and the last", x.change(0, n - 1), n - 1);
            Bench.due("leaf(n - 1, 0)", x.leaf(n - 1, 0), 0);
            Bench.due("the last and the first", x.change(n - 1, 0), n - 1);
            Bench.due("leaf(0, 0)", x.leaf(0, 0), 0);
            Bench.due("the last with itself", x.change(n - 1, n - 1), n - 1);
            Bench.due("the first with itself", x.change(0, 0), 0);
            for (int p : new int[] {-1, n, 40, Integer.MIN_VALUE, Integer.MAX_VALUE}) {
                Bench.due("change(" + p + ", 0)", x.change(p, 0), Bench.BAD);
                Bench.due("change(0, " + p + ")", x.change(0, p), Bench.BAD);
                Bench.due("change(" + p + ", " + p + ")", x.change(p, p), Bench.BAD);
            }
            Bench.duePack("nothing else", x, Bench.numbered(n));
        }
    }

    /** A READING of each KIND, with each A, of each N; read is how many the reader has read before. */
    private static void dueReadings(int kind, int read) {
        for (int n = 2; n <= 40; n++) {
            for (int a = 0; a <= 39; a++) {
                ShufflingBook x = Bench.laid("n" + n + ";r40;l" + kind + "," + a + ";");
                int[] order = Bench.numbered(n);
                for (int k = 0; k < read; k++) {
                    x.read();
                    Bench.reading(order, kind, a, k);
                }
                Bench.due("l" + kind + "," + a + " of " + n + ": read()", x.read(), order[0]);
                Bench.reading(order, kind, a, read);
                Bench.duePack("l" + kind + "," + a + " of " + n, x, order);
            }
        }
    }

    private static void down() {
        ShufflingBook x = Bench.laid("n4;l0,0;");
        x.read();
        Bench.duePack("A 0", x, 0, 1, 2, 3);
        x = Bench.laid("n4;l0,2;");
        x.read();
        Bench.duePack("A N less 2", x, 1, 2, 0, 3);
        x = Bench.laid("n4;l0,3;");
        x.read();
        Bench.duePack("A N less 1", x, 1, 2, 3, 0);
        x = Bench.laid("n4;l0,4;");
        x.read();
        Bench.duePack("A N", x, 1, 2, 3, 0);
        x = Bench.laid("n4;l0,39;");
        x.read();
        Bench.duePack("A 39", x, 1, 2, 3, 0);
        dueReadings(0, 0);
        dueReadings(0, 1);
    }

    private static void under() {
        dueReadings(1, 0);
        dueReadings(1, 1);
    }

    private static void turns() {
        ShufflingBook x = Bench.laid("n4;r5;l2,1;");
        int[][] orders = {{1, 0, 2, 3}, {0, 2, 3, 1}, {2, 0, 3, 1}, {0, 3, 1, 2}, {3, 0, 1, 2}};
        for (int[] order : orders) {
            x.read();
            Bench.duePack("TURNS", x, order);
        }
        for (int read = 0; read < 4; read++) {
            dueReadings(2, read);
        }
    }

    /** A READER of an odd many has read as DOWN last: the next one begins as DOWN again. */
    private static void turnsOfNextReader() {
        int[][] read = {{0, 0, 0, 0, 0, 0}, {0, 0, 1, 1, 2, 2}, {0, 0, 1, 1, 1, 2}, {0, 0, 1, 1, 2, 2}};
        for (int r = 1; r <= 4; r++) {
            ShufflingBook x = Bench.laid("n3;r" + r + ";l2,0;");
            for (int k = 0; k < 6; k++) {
                Bench.due("R " + r + ", reading " + k, x.read(), read[r - 1][k]);
                Bench.due("R " + r + ", has", x.has(k / r, k % r), read[r - 1][k]);
            }
        }
        ShufflingBook x = Bench.laid("n3;r4;l2,0;");
        x.read();
        x.drop(0);
        int top = x.leaf(0, 0);
        x.read();
        Bench.due("anew after drop(0), as DOWN", x.leaf(0, 0), top);
        x.keep();
        x.read();
        x.back();
        x.read();
        Bench.due("back to his second, as UNDER", x.leaf(2, 0), top);
    }

    private static void cut() {
        ShufflingBook x = Bench.laid("n2;l3,0;");
        x.read();
        Bench.duePack("two", x, 1, 0);
        x = Bench.laid("n3;l3,0;");
        x.read();
        Bench.duePack("three", x, 1, 2, 0);
        x = Bench.laid("n4;l3,0;");
        x.read();
        Bench.duePack("four", x, 2, 3, 0, 1);
        x = Bench.laid("n5;l3,0;");
        x.read();
        Bench.duePack("five", x, 2, 3, 4, 0, 1);
        x.read();
        Bench.duePack("five, twice", x, 4, 0, 1, 2, 3);
        dueReadings(3, 0);
        dueReadings(3, 1);
    }

    private static void readerHasDone() {
        for (int r = 1; r <= 40; r++) {
            ShufflingBook x = Bench.laid("n3;r" + r + ";l1,0;");
            for (int k = 0; k < 2 * r + 1; k++) {
                Bench.due("R " + r + ", " + k + " read: count(3)", x.count(3), k % r);
                Bench.due("R " + r + ", " + k + " read: count(4)", x.count(4), k / r);
                Bench.due("R " + r + ", " + k + " read: read()", x.read(), k % 3);
            }
        }
    }

    private static void finished() {
        for (int r = 1; r <= 40; r++) {
            for (int read = 0; read <= r; read += r < 4 ? 1 : r - 1) {
                ShufflingBook x = Bench.laid("n7;r" + r + ";l1,0;");
                for (int k = 0; k < read; k++) {
                    x.read();
                }
                String of = "R " + r + ", " + read + " read: ";
                Bench.due(of + "finish()", x.finish(), read == r ? r : r - read);
                Bench.due(of + "count(3)", x.count(3), 0);
                Bench.due(of + "count(4)", x.count(4), read == r ? 2 : 1);
                Bench.due(of + "leaf(0, 0)", x.leaf(0, 0), (read == r ? 2 * r : r) % 7);
                Bench.due(of + "finish() again", x.finish(), r);
                Bench.due(of + "count(4)", x.count(4), read == r ? 3 : 2);
            }
        }
    }

    private static int[] droppedBy(int z, int n) {
        int[] order = Bench.numbered(n);
        for (int k = n - 1; k >= 1; k--) {
            long x = (7919L * z + 6151L * k + 1) % 65521;
            int q = (int) (x * x % 65521) % (k + 1);
            int held = order[k];
            order[k] = order[q];
            order[q] = held;
        }
        return order;
    }

    private static void dropped() {
        // n 2: k is 1 alone. z 0: x 6152, 6152 x 6152 modulo 65521 is 41487, odd: q 1. z 1: 54100, even: q 0.
        ShufflingBook x = Bench.laid("n2;");
        Bench.due("drop(0) of two", x.drop(0), 0);
        Bench.due("drop(1) of two", x.drop(1), 1);
        for (int z : new int[] {0, 1, 5, 6, 9998, 9999}) {
            for (int n = 2; n <= 40; n++) {
                x = Bench.laid("n" + n + ";");
                int[] want = droppedBy(z, n);
                Bench.due("drop(" + z + ") of " + n, x.drop(z), want[0]);
                Bench.duePack("drop(" + z + ") of " + n, x, want);
            }
        }
        for (int z : new int[] {-1, 10000, 65521, Integer.MIN_VALUE, Integer.MAX_VALUE}) {
            Bench.due("drop(" + z + ")", x.drop(z), Bench.BAD);
        }
        Bench.duePack("dropped by 9999 alone", x, droppedBy(9999, 40));
    }

    private static void beginsAnew() {
        ShufflingBook x = Bench.laid("n5;r4;l1,0;");
        x.drop(3);
        Bench.due("none read: count(3)", x.count(3), 0);
        Bench.due("none read: count(4)", x.count(4), 0);
        x.finish();
        x.finish();
        for (int k = 0; k < 3; k++) {
            x.read();
        }
        x.drop(3);
        Bench.due("all but one read: count(3)", x.count(3), 0);
        Bench.due("all but one read: count(4)", x.count(4), 2);
        Bench.due("finish()", x.finish(), 4);
        Bench.due("count(4)", x.count(4), 3);
    }

    private static void twoKept() {
        ShufflingBook x = Bench.laid("n5;r3;l1,0;");
        Bench.due("nothing kept: back()", x.back(), Bench.NO);
        Bench.due("nothing kept: count(6)", x.count(6), 0);
        Bench.due("the first", x.keep(), 1);
        Bench.due("count(6)", x.count(6), 1);
        Bench.due("the second", x.keep(), 2);
        Bench.due("count(6)", x.count(6), 2);
        Bench.due("the third", x.keep(), Bench.FULL);
        Bench.due("count(6)", x.count(6), 2);
        Bench.due("back()", x.back(), 1);
        Bench.due("room again", x.keep(), 2);
        Bench.due("but for one", x.keep(), Bench.FULL);
        Bench.due("back()", x.back(), 1);
        Bench.due("back()", x.back(), 0);
        Bench.due("no more", x.back(), Bench.NO);
        Bench.due("count(6)", x.count(6), 0);
    }

    private static void keptLast() {
        ShufflingBook x = Bench.laid("n5;r3;l1,0;");
        x.keep();
        x.read();
        x.change(0, 4);
        x.keep();
        x.finish();
        x.drop(9);
        Bench.due("the third is not kept", x.keep(), Bench.FULL);
        Bench.due("the second", x.back(), 1);
        Bench.duePack("the second", x, 0, 2, 3, 4, 1);
        Bench.due("the second: count(3)", x.count(3), 1);
        Bench.due("the second: count(4)", x.count(4), 0);
        x.finish();
        x.read();
        x.keep();
        x.change(1, 2);
        Bench.due("in its place another", x.back(), 1);
        Bench.duePack("another", x, 4, 1, 0, 2, 3);
        Bench.due("another: count(3)", x.count(3), 1);
        Bench.due("another: count(4)", x.count(4), 1);
        Bench.due("the first", x.back(), 0);
        Bench.duePack("the first", x, 0, 1, 2, 3, 4);
        Bench.due("the first: count(3)", x.count(3), 0);
        Bench.due("the first: count(4)", x.count(4), 0);
        x.keep();
        x.wipe();
        x.lay();
        Bench.due("none of another text", x.back(), Bench.NO);
    }

    private static void lastCall() {
        ShufflingBook x = new ShufflingBook();
        for (int k = 0; k < 510; k++) {
            x.finish();
        }
        Bench.due("the 511th call", x.count(4), 510);
        Bench.due("the 512th call", x.finish(), 9);
    }

    public static void main(String[] args) {
        Bench.sentence("PLACES are 0 (the top) to N less 1; 6: BAD", PackBoundsTest::placesBelowN);
        Bench.sentence("6: of THE PACK (what = 0), of the FIRST ORDER (1)", PackBoundsTest::packOrFirstOrder);
        Bench.sentence("LEAVES, 0 to N less 1; 7: BAD", PackBoundsTest::leavesBelowN);
        Bench.sentence("10: LEAVES at two PLACES of THE PACK change; BAD", PackBoundsTest::changed);
        Bench.sentence("DOWN, so that A LEAVES are above it (N less 1, if A is more)", PackBoundsTest::down);
        Bench.sentence("UNDER, as the lowest one", PackBoundsTest::under);
        Bench.sentence("TURNS, as DOWN the first time, as UNDER the second time, and so on", PackBoundsTest::turns);
        Bench.sentence("TURNS, the first time a READER does (by how many he has read)",
            PackBoundsTest::turnsOfNextReader);
        Bench.sentence("CUT, the upper half (N by 2, cut) goes below the lower one", PackBoundsTest::cut);
        Bench.sentence("with R of them a READER has done, the next one begins", PackBoundsTest::readerHasDone);
        Bench.sentence("9: how many he read still (R, if he had read none)", PackBoundsTest::finished);
        Bench.sentence("DROPPED by z (0 to 9999): for k from N less 1 down to 1", PackBoundsTest::dropped);
        Bench.sentence("the READER begins anew (he has read none)", PackBoundsTest::beginsAnew);
        Bench.sentence("KEPT are 2 at most; 27: FULL; 28: NO", PackBoundsTest::twoKept);
        Bench.sentence("28: As KEPT last (it is KEPT no more then)", PackBoundsTest::keptLast);
        Bench.sentence("at most 512 calls", PackBoundsTest::lastCall);
        Bench.end();
    }
}
