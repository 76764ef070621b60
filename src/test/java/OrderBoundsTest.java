/** Each sentence on ORDER, SHOWS, QUICKEST, SEEN, SO and SURE that names a bound; promises 17 to 23. */
public final class OrderBoundsTest {
    /** UNDER, the TALE told from the highest LEAF down: the first order by which a READER has it right. */
    private static int[] orderDue(int first, int right) {
        int[] order = new int[40];
        java.util.Arrays.fill(order, -1);
        for (int i = 0; i < right; i++) {
            order[(first + i) % 40] = 39 - i;
        }
        int leaf = 0;
        for (int p = 0; p < 40; p++) {
            if (order[p] == -1) {
                order[p] = leaf++;
            }
        }
        return order;
    }

    private static void allRightOfThatMany() {
        for (int r = 1; r <= 40; r++) {
            for (int told : new int[] {0, 1, 2, r - 1, r, r + 1, 19, 20}) {
                if (told > 20) {
                    continue;
                }
                StringBuilder tale = new StringBuilder();
                for (int i = 0; i < told; i++) {
                    tale.append("t").append(39 - i).append(";");
                }
                ShufflingBook x = Bench.laid("n40;r" + r + ";l1,0;s0,39;" + tale);
                for (int j : new int[] {0, 1, 39}) {
                    int[] want = orderDue(j * r % 40, Math.min(r, told));
                    for (int p = 0; p < 40; p++) {
                        String call = "R " + r + ", " + told + " told: order(" + j + ", " + p + ")";
                        Bench.due(call, x.order(j, p), want[p]);
                    }
                }
            }
        }
    }

    private static void orderOfPlaces() {
        for (int n = 2; n <= 40; n++) {
            ShufflingBook x = Bench.laid("n" + n + ";l1,0;s0,1;");
            Bench.due("an empty tale of " + n + ": the first", x.order(0, 0), 0);
            Bench.due("an empty tale of " + n + ": the last", x.order(0, n - 1), n - 1);
            for (int p : new int[] {-1, n, 40, Integer.MIN_VALUE, Integer.MAX_VALUE}) {
                Bench.due("of " + n + ": order(0, " + p + ")", x.order(0, p), Bench.BAD);
            }
        }
    }

    private static void noOrder() {
        // The last i that counts, and the first that doesn't.
        Bench.due("a LEAF two PLACES", Bench.laid("n5;r2;l1,0;t3;t3;").order(0, 0), Bench.NONE);
        Bench.due("a LEAF two PLACES behind R", Bench.laid("n5;r1;l1,0;t3;t3;").order(0, 0), 3);
        Bench.due("a PLACE two LEAVES", Bench.laid("n5;r2;l0,0;t3;t4;").order(0, 0), Bench.NONE);
        Bench.due("a PLACE two LEAVES behind R", Bench.laid("n5;r1;l0,0;t3;t4;").order(0, 0), 3);
        Bench.due("the first and the last of twenty",
            Bench.laid("n40;r40;l1,0;" + Bench.items("t#;", 0, 18) + "t0;").order(0, 39), Bench.NONE);
        Bench.due("round once, the same LEAF", Bench.laid("n2;r3;l1,0;t1;t0;t1;").order(0, 0), 1);
        Bench.due("round once, another LEAF", Bench.laid("n2;r3;l1,0;t1;t0;t0;").order(0, 0), Bench.NONE);
        Bench.due("a PLACE one LEAF, twice", Bench.laid("n5;r2;l0,0;t3;t3;").order(0, 0), 3);
        ShufflingBook x = Bench.laid("n3;r3;l0,0;t1;t2;");
        for (int p = 0; p < 3; p++) {
            Bench.due("at each PLACE: order(0, " + p + ")", x.order(0, p), Bench.NONE);
        }
        x = Bench.laid("n3;r3;l1,0;t2;t1;t0;");
        for (int p = 0; p < 3; p++) {
            Bench.due("all told: order(0, " + p + ")", x.order(0, p), 2 - p);
        }
    }

    /** The READINGS by which a law shows all of n LEAVES, of 2000; NONE. */
    private static int showsDue(int n, int k, int a) {
        int[] order = Bench.numbered(n);
        boolean[] shown = new boolean[n];
        int missing = n;
        for (int m = 0; m < 2000; m++) {
            int leaf = Bench.reading(order, k, a, m);
            missing -= shown[leaf] ? 0 : 1;
            shown[leaf] = true;
            if (missing == 0) {
                return m + 1;
            }
        }
        return Bench.NONE;
    }

    private static void showsAndQuickest() {
        for (int n = 2; n <= 40; n++) {
            ShufflingBook x = Bench.laid("n" + n + ";r1;l3,0;s0," + (n - 1) + ";");
            int[] quickest = {Bench.NONE, Bench.NONE, Bench.NONE};
            for (int k = 0; k <= 3; k++) {
                for (int a = 0; a < n; a++) {
                    int due = showsDue(n, k, a);
                    Bench.due("of " + n + ": shows(" + k + ", " + a + ")", x.shows(k, a), due);
                    if (due != Bench.NONE && (quickest[2] == Bench.NONE || due < quickest[2])) {
                        quickest = new int[] {k, a, due};
                    }
                }
            }
            for (int what = 0; what < 3; what++) {
                Bench.due("of " + n + ": quickest(" + what + ")", x.quickest(what), quickest[what]);
            }
        }
    }

    private static void noLaw() {
        for (int n = 2; n <= 40; n++) {
            ShufflingBook x = Bench.laid("n" + n + ";");
            for (int k = 0; k <= 3; k++) {
                for (int a : new int[] {-1, n, 40, Integer.MIN_VALUE, Integer.MAX_VALUE}) {
                    Bench.due("of " + n + ": shows(" + k + ", " + a + ")", x.shows(k, a), Bench.BAD);
                }
            }
            for (int k : new int[] {-1, 4, Integer.MIN_VALUE, Integer.MAX_VALUE}) {
                Bench.due("of " + n + ": shows(" + k + ", 0)", x.shows(k, 0), Bench.BAD);
                Bench.due("of " + n + ": shows(" + k + ", n)", x.shows(k, n), Bench.BAD);
            }
        }
    }

    private static void readingsByHand() {
        ShufflingBook x = Bench.laid("n4;");
        Bench.due("DOWN N less 2", x.shows(0, 2), Bench.NONE);
        Bench.due("DOWN N less 1", x.shows(0, 3), 4);
        Bench.due("TURNS 0", x.shows(2, 0), 7);
        Bench.due("CUT of four", x.shows(3, 0), Bench.NONE);
        Bench.due("CUT of two", Bench.laid("n2;").shows(3, 0), 2);
        Bench.due("CUT of three", Bench.laid("n3;").shows(3, 2), 3);
        // Each but the last is read twice: the most READINGS that are ever needed.
        Bench.due("TURNS 0 of forty", Bench.laid("n40;").shows(2, 0), 79);
    }

    private static void quickestWhat() {
        ShufflingBook x = Bench.laid("n2;");
        Bench.due("quickest(0)", x.quickest(0), 0);
        Bench.due("quickest(1)", x.quickest(1), 1);
        Bench.due("quickest(2)", x.quickest(2), 2);
        for (int what : new int[] {-1, 3, Integer.MIN_VALUE, Integer.MAX_VALUE}) {
            Bench.due("quickest(" + what + ")", x.quickest(what), Bench.BAD);
        }
    }

    private static void twelveSeen() {
        ShufflingBook x = Bench.laid("n13;r13;l1,0;");
        for (int round = 0; round < 2; round++) {
            Bench.due("none: count(5)", x.count(5), 0);
            for (int k = 1; k <= 12; k++) {
                Bench.due("the " + k + "th", x.seen(0, k - 1, 12 - k), k);
                Bench.due("count(5)", x.count(5), k);
            }
            Bench.due("the 13th", x.seen(0, 12, 12), Bench.FULL);
            Bench.due("one that was seen before", x.seen(0, 0, 11), Bench.FULL);
            Bench.due("count(5)", x.count(5), 12);
            Bench.due("the 12th counts", x.sure(11), 0);
            Bench.due("forget()", x.forget(), 12);
            Bench.due("forget() again", x.forget(), 0);
        }
        for (int k = 0; k < 11; k++) {
            x.seen(0, 0, 5);
        }
        Bench.due("eleven alike: so()", x.so(), 1);
        Bench.due("the 12th doesn't fit", x.seen(13, 0, 6), 12);
        Bench.due("so()", x.so(), 0);
    }

    private static void seenLeavesBelowN() {
        for (int n = 2; n <= 40; n++) {
            ShufflingBook x = Bench.laid("n" + n + ";");
            Bench.due("of " + n + ": the first", x.seen(0, 0, 0), 1);
            Bench.due("of " + n + ": the last", x.seen(0, 0, n - 1), 2);
            for (int v : new int[] {-1, n, 40, Integer.MIN_VALUE, Integer.MAX_VALUE}) {
                Bench.due("of " + n + ": seen(0, 0, " + v + ")", x.seen(0, 0, v), Bench.BAD);
            }
            Bench.due("of " + n + ": forget()", x.forget(), 2);
        }
    }

    private static void someFits() {
        ShufflingBook x = Bench.laid("n4;r2;l1,0;s0,3;");
        Bench.due("nothing seen", x.so(), 1);
        x.seen(0, 0, 0);
        Bench.due("not as it was, but some", x.so(), 1);
        x.seen(2, 0, 0);
        Bench.due("the same again", x.so(), 1);
        x.seen(0, 1, 1);
        x.seen(1, 0, 2);
        x.seen(1, 1, 3);
        Bench.due("each place once", x.so(), 1);
        x.seen(2, 1, 1);
        Bench.due("and one again", x.so(), 1);
        x.seen(2, 1, 2);
        Bench.due("a place, two leaves", x.so(), 0);
        x.forget();
        Bench.due("nothing seen again", x.so(), 1);
        x.seen(0, 0, 1);
        x.seen(1, 1, 1);
        Bench.due("a leaf, two places", x.so(), 0);
        x.seen(0, 0, 1);
        Bench.due("nothing mends it", x.so(), 0);
    }

    private static void sureOfPlaces() {
        for (int n = 2; n <= 40; n++) {
            ShufflingBook x = Bench.laid("n" + n + ";r40;l1,0;");
            Bench.due("of " + n + ", nothing seen: the first", x.sure(0), Bench.NONE);
            Bench.due("of " + n + ", nothing seen: the last", x.sure(n - 1), Bench.NONE);
            x.seen(0, n - 1, 0);
            Bench.due("of " + n + ", the last seen", x.sure(n - 1), 0);
            Bench.due("of " + n + ", the last seen: the first", x.sure(0), n == 2 ? 1 : Bench.NONE);
            for (int p : new int[] {-1, n, 40, Integer.MIN_VALUE, Integer.MAX_VALUE}) {
                Bench.due("of " + n + ": sure(" + p + ")", x.sure(p), Bench.BAD);
            }
        }
    }

    /** Of N LEAVES N less 2 seen leave two orders, N less 1 leave one. */
    private static void sureOfTheRest() {
        for (int n = 2; n <= 14; n++) {
            ShufflingBook x = Bench.laid("n" + n + ";r40;l1,0;");
            for (int k = 0; k <= Math.min(12, n); k++) {
                for (int p = 0; p < n; p++) {
                    int want = p < k || k == n - 1 ? n - 1 - p : Bench.NONE;
                    Bench.due("of " + n + ", " + k + " seen: sure(" + p + ")", x.sure(p), want);
                }
                if (k < Math.min(12, n)) {
                    x.seen(0, k, n - 1 - k);
                }
            }
        }
        ShufflingBook x = Bench.laid("n3;r3;l1,0;");
        x.seen(0, 0, 0);
        x.seen(1, 0, 0);
        Bench.due("the same twice is one", x.sure(1), Bench.NONE);
        x.seen(0, 1, 0);
        for (int p = 0; p < 3; p++) {
            Bench.due("none fits: sure(" + p + ")", x.sure(p), Bench.NONE);
        }
    }

    public static void main(String[] args) {
        Bench.sentence("ORDER: all RIGHT (of that many i); the lower ahead, in the PLACES that are left",
            OrderBoundsTest::allRightOfThatMany);
        Bench.sentence("17: the LEAF at a PLACE; BAD", OrderBoundsTest::orderOfPlaces);
        Bench.sentence("none (a PLACE would have to have two LEAVES, or a LEAF two PLACES)", OrderBoundsTest::noOrder);
        Bench.sentence("SHOWS: the fewest READINGS (to 2000); QUICKEST: of several the first (by K, then A)",
            OrderBoundsTest::showsAndQuickest);
        Bench.sentence("SHOWS: by which each LEAF was read; none", OrderBoundsTest::readingsByHand);
        Bench.sentence("18: BAD (A below N)", OrderBoundsTest::noLaw);
        Bench.sentence("19: K (what = 0), A (1), READINGS (2); BAD", OrderBoundsTest::quickestWhat);
        Bench.sentence("SEEN (12 at most); 20: FULL; 21: how many were", OrderBoundsTest::twelveSeen);
        Bench.sentence("20: BAD, by a LEAF that is none", OrderBoundsTest::seenLeavesBelowN);
        Bench.sentence("SO: 1, if some first order fits all that was SEEN, 0", OrderBoundsTest::someFits);
        Bench.sentence("SURE of a PLACE; 23: BAD", OrderBoundsTest::sureOfPlaces);
        Bench.sentence("SURE: in each first order that fits; none (none fits; they differ)",
            OrderBoundsTest::sureOfTheRest);
        Bench.end();
    }
}
