/** Each promise of the document by examples worked out by hand: usual calls, edges, wrong numbers. */
public final class PromiseTest {
    private static final int BAD = -1, NO = -2, FULL = -3, NONE = -4;
    private static final long FAR = 1000000000000L;
    private static final String TWENTY_SWAPS = "s0,1;".repeat(20);
    private static final String TWENTY_TOLD = "t00;".repeat(20);
    private static int wrong = 0;

    private static void due(int promise, String what, long got, long want) {
        if (got != want) {
            wrong++;
            System.out.println("promise " + promise + ", " + what + ": " + got + ", due is " + want);
        }
    }

    private static void write(ShufflingBook x, String s) {
        for (int at = 0; at < s.length(); at += 8) {
            int k = Math.min(8, s.length() - at);
            long v = 0;
            for (int i = 0; i < k; i++) {
                v = v << 8 | s.charAt(at + i);
            }
            x.write(k, v);
        }
    }

    private static ShufflingBook written(String s) {
        ShufflingBook x = new ShufflingBook();
        write(x, s);
        return x;
    }

    private static ShufflingBook laid(String s) {
        ShufflingBook x = written(s);
        if (x.lay() < 0) {
            wrong++;
            System.out.println("not laid: " + s);
        }
        return x;
    }

    private static void dueOrder(int promise, String what, ShufflingBook x, int... leaves) {
        for (int p = 0; p < leaves.length; p++) {
            due(promise, what + ", place " + p, x.leaf(p, 0), leaves[p]);
        }
    }

    private static void newObject() {
        ShufflingBook x = new ShufflingBook();
        int[] counts = {10, 9, 0, 0, 0, 0, 0, 0};
        for (int k = 0; k < counts.length; k++) {
            due(1, "count " + k, x.count(k), counts[k]);
        }
        dueOrder(1, "new", x, 0, 1, 2, 3, 4, 5, 6, 7, 8, 9);
        due(1, "fault", x.fault(), NONE);
        due(1, "read", x.read(), 0);
        dueOrder(1, "the law is DOWN, 2", x, 1, 2, 0, 3);
    }

    private static void write() {
        ShufflingBook x = new ShufflingBook();
        due(2, "no bytes", x.write(0, 0), BAD);
        due(2, "nine bytes", x.write(9, 0), BAD);
        due(2, "-1 bytes", x.write(-1, 0), BAD);
        due(2, "bytes ahead of n don't count", x.write(3, 0x78796E373BL), 3);
        due(2, "the highest first", x.fault(), NONE);
        due(2, "laid", x.lay(), 7);
        due(2, "all eight, a high sign too", x.write(8, 0xFF6E373B6E373B6EL), 11);
        due(2, "fault behind", x.fault(), 3);
        for (int k = 0; k < 36; k++) {
            x.write(8, 0);
        }
        due(2, "299", x.count(7), 299);
        due(2, "two more", x.write(2, 0), FULL);
        due(2, "nothing changed", x.count(7), 299);
        due(2, "BAD ahead of FULL", x.write(9, 0), BAD);
        due(2, "the last", x.write(1, 0), 300);
        due(2, "one more", x.write(1, 0), FULL);
    }

    private static void wipe() {
        ShufflingBook x = written("n5;r");
        x.lay();
        due(3, "wipe", x.wipe(), 4);
        due(3, "wiped", x.wipe(), 0);
        due(3, "no fault left", x.fault(), NONE);
        due(3, "an empty text is laid", x.lay(), 10);
        x = laid("n5;");
        x.wipe();
        due(3, "what is laid stays", x.count(0), 5);
        due(3, "write from the start", x.write(3, 0x6E363BL), 3);
        due(3, "laid anew", x.lay(), 6);
    }

    private static void fault() {
        String[] right = {
            "", "n2;", "n40;", "n02;", "r1;", "r40;", "r01;", "l0,0;", "l3,39;", "s0,0;", "s39,39;", "t0;", "t39;",
            "n2;s9,9;t30;", "n2;n40;r1;r2;l0,0;l1,1;", TWENTY_SWAPS, TWENTY_TOLD, TWENTY_SWAPS + TWENTY_TOLD
        };
        for (String s : right) {
            due(4, s, written(s).fault(), NONE);
        }
        String[] atStart = {
            "n1;", "n0;", "n41;", "n;", "n", "n5", "n5,", "n5,6;", "n005;", "n-5;", "n 5;", " n5;", "N5;", "5;", ";",
            "r0;", "r41;", "r1,1;", "l0;", "l4,0;", "l0,40;", "l0,;", "l,0;", "l0,0", "l0,0,0;", "l0;0;", "l0 0;",
            "l00,000;", "s0;", "s40,0;", "s0,40;", "s0,0", "s1,2,3;", "t40;", "t;", "t0,0;", "t100;", "x1;", "\0", "\377"
        };
        for (String s : atStart) {
            due(4, s, written(s).fault(), 0);
            due(4, "behind another: " + s, written("r12;" + s).fault(), 4);
            due(4, "another behind: " + s, written("n7;t3;" + s + "n1;").fault(), 6);
        }
        due(4, "; twice", written("n5;;").fault(), 3);
        due(4, "21 swaps", written(TWENTY_SWAPS + "s0,1;").fault(), 100);
        due(4, "21 told", written(TWENTY_TOLD + "n9;t1;").fault(), 83);
        due(4, "the first of two", written("n9;r0;r0;").fault(), 3);
        ShufflingBook x = written("n5");
        due(4, "not done yet", x.fault(), 0);
        write(x, ";");
        due(4, "done", x.fault(), NONE);
    }

    private static void lay() {
        due(5, "place N", written("n5;s0,5;").lay(), NO);
        due(5, "place N first", written("n5;s5,0;").lay(), NO);
        due(5, "leaf N", written("n5;t5;").lay(), NO);
        due(5, "place 10 of 10", written("s10,0;").lay(), NO);
        due(5, "a fault", written("n5;n1;").lay(), NO);
        due(5, "below N", written("s0,4;t4;n5;").lay(), 5);
        due(5, "the last n counts", written("n40;s0,7;n5;").lay(), NO);
        due(5, "the last n counts, up", written("n5;s0,7;n8;").lay(), 8);
        ShufflingBook x = laid("n6;n4;r3;r2;l1,0;l0,1;s0,1;s1,2;t3;t1;");
        dueOrder(5, "one swap behind the other", x, 1, 2, 0, 3);
        due(5, "R", x.count(1), 2);
        due(5, "tale", x.count(2), 2);
        due(5, "the text stays", x.count(7), 38);
        x.finish();
        x.read();
        x.change(0, 3);
        x.seen(0, 0, 0);
        x.keep();
        write(x, "n3;");
        due(5, "not laid", x.lay(), NO);
        int[] still = {4, 2, 2, 1, 1, 1, 1, 41};
        for (int k = 0; k < still.length; k++) {
            due(5, "nothing changed, count " + k, x.count(k), still[k]);
        }
        due(5, "the first order is still there", x.leaf(0, 1), 1);
        write(x, "n4;");
        due(5, "laid anew", x.lay(), 4);
        int[] anew = {4, 2, 2, 0, 0, 0, 0, 44};
        for (int k = 0; k < anew.length; k++) {
            due(5, "anew, count " + k, x.count(k), anew[k]);
        }
        dueOrder(5, "anew", x, 1, 2, 0, 3);
        due(5, "nothing kept", x.back(), NO);
        x.wipe();
        due(5, "all as without", x.lay(), 10);
        due(5, "R without", x.count(1), 9);
        due(5, "no tale", x.count(2), 0);
        dueOrder(5, "without s", x, 0, 1, 2, 3, 4, 5, 6, 7, 8, 9);
        x.read();
        dueOrder(5, "the law without", x, 1, 2, 0, 3);
    }

    private static void leafAndWhere() {
        ShufflingBook x = laid("n3;r2;l1,0;s0,2;");
        x.read();
        for (int p = 0; p < 3; p++) {
            due(6, "pack", x.leaf(p, 0), new int[] {1, 0, 2}[p]);
            due(6, "first order", x.leaf(p, 1), new int[] {2, 1, 0}[p]);
            due(7, "where", x.where(p), new int[] {1, 0, 2}[p]);
        }
        due(6, "place N", x.leaf(3, 0), BAD);
        due(6, "place -1", x.leaf(-1, 1), BAD);
        due(6, "what 2", x.leaf(0, 2), BAD);
        due(6, "what -1", x.leaf(0, -1), BAD);
        due(7, "leaf N", x.where(3), BAD);
        due(7, "leaf -1", x.where(-1), BAD);
        due(7, "the highest number", x.where(Integer.MAX_VALUE), BAD);
    }

    private static void read() {
        ShufflingBook x = laid("n5;r3;l0,3;");
        due(8, "DOWN", x.read(), 0);
        dueOrder(8, "DOWN 3", x, 1, 2, 3, 0, 4);
        x = laid("n4;r3;l0,39;");
        x.read();
        dueOrder(8, "DOWN by more than there are", x, 1, 2, 3, 0);
        x = laid("n4;r3;l0,0;");
        x.read();
        dueOrder(8, "DOWN 0", x, 0, 1, 2, 3);
        x = laid("n4;r3;l1,1;");
        x.read();
        dueOrder(8, "UNDER", x, 1, 2, 3, 0);
        x = laid("n4;r3;l2,1;");
        x.read();
        dueOrder(8, "TURNS, the first time", x, 1, 0, 2, 3);
        due(8, "TURNS", x.read(), 1);
        dueOrder(8, "TURNS, the second time", x, 0, 2, 3, 1);
        x.read();
        dueOrder(8, "TURNS, the third time", x, 2, 0, 3, 1);
        due(8, "the reader has done", x.count(3), 0);
        due(8, "one has", x.count(4), 1);
        x.read();
        dueOrder(8, "TURNS, the next reader's first time", x, 0, 2, 3, 1);
        x = laid("n5;r9;l3,0;");
        due(8, "CUT", x.read(), 0);
        dueOrder(8, "CUT of five", x, 2, 3, 4, 0, 1);
        x = laid("n4;r9;l3,2;");
        x.read();
        dueOrder(8, "CUT of four", x, 2, 3, 0, 1);
        x = laid("n2;r1;l3,0;");
        x.read();
        dueOrder(8, "CUT of two", x, 1, 0);
        due(8, "R 1", x.count(4), 1);
    }

    private static void finish() {
        ShufflingBook x = laid("n5;r4;l1,0;");
        due(9, "all", x.finish(), 4);
        dueOrder(9, "all", x, 4, 0, 1, 2, 3);
        due(9, "done", x.count(4), 1);
        x.read();
        due(9, "the rest", x.finish(), 3);
        dueOrder(9, "the rest", x, 3, 4, 0, 1, 2);
        due(9, "none read", x.count(3), 0);
        due(9, "two have done", x.count(4), 2);
        x.read();
        x.read();
        x.read();
        due(9, "the last", x.finish(), 1);
        due(9, "three have done", x.count(4), 3);
    }

    private static void change() {
        ShufflingBook x = laid("n4;r4;l1,0;");
        due(10, "the one that is at p then", x.change(0, 2), 2);
        dueOrder(10, "changed", x, 2, 1, 0, 3);
        due(10, "with itself", x.change(3, 3), 3);
        due(10, "p = N", x.change(4, 0), BAD);
        due(10, "q = N", x.change(0, 4), BAD);
        due(10, "p = -1", x.change(-1, 0), BAD);
        due(10, "q = -1", x.change(0, -1), BAD);
        dueOrder(10, "nothing changed", x, 2, 1, 0, 3);
        due(10, "the first order stays", x.leaf(0, 1), 0);
        due(10, "so do the readers", x.has(0, 0), 0);
        due(10, "read", x.read(), 2);
        x.change(0, 1);
        due(10, "has still read one", x.count(3), 1);
    }

    /** n 4, z 1: x 26373, 20222, 14071 for k 3, 2, 1; x x modulo 65521: 29714, 12723, 54100; q 2, 0, 0. */
    private static void drop() {
        ShufflingBook x = laid("n4;r4;l1,0;");
        x.finish();
        x.read();
        due(11, "z 10000", x.drop(10000), BAD);
        due(11, "z -1", x.drop(-1), BAD);
        due(11, "nothing changed", x.count(3), 1);
        dueOrder(11, "nothing changed", x, 1, 2, 3, 0);
        x.change(0, 3);
        x.change(1, 3);
        x.change(2, 3);
        dueOrder(11, "in order again", x, 0, 1, 2, 3);
        due(11, "the top", x.drop(1), 1);
        dueOrder(11, "dropped", x, 1, 3, 0, 2);
        due(11, "the first order stays", x.leaf(0, 1), 0);
        due(11, "the reader begins anew", x.count(3), 0);
        due(11, "those that have done stay", x.count(4), 1);
        due(11, "reads all", x.finish(), 4);
        // q 3, 0, 1
        due(11, "z 0", laid("n4;").drop(0), 2);
        x = laid("n40;");
        due(11, "z 9999", x.drop(9999), 37);
        dueOrder(11, "z 9999", x, 37, 35, 4, 10, 36, 12, 30, 1, 8, 2, 38, 34, 29, 26, 5, 25, 9, 32, 16, 15, 14, 11, 3,
            7, 18, 0, 19, 13, 24, 28, 31, 20, 27, 23, 17, 6, 22, 39, 21, 33);
    }

    private static void has() {
        ShufflingBook x = laid("n5;r3;l1,0;s0,4;");
        due(12, "first", x.has(0, 0), 4);
        due(12, "last", x.has(0, 2), 2);
        due(12, "the next reader", x.has(1, 0), 3);
        due(12, "10 to the 12th readers, 3 times that readings, 5 leaves", x.has(FAR, 1), 1);
        due(12, "one before", x.has(FAR - 1, 1), 3);
        due(12, "j -1", x.has(-1, 0), BAD);
        due(12, "too far", x.has(FAR + 1, 0), BAD);
        due(12, "the highest number", x.has(Long.MAX_VALUE, 0), BAD);
        due(12, "i R", x.has(0, 3), BAD);
        due(12, "i -1", x.has(0, -1), BAD);
        x.read();
        x.change(0, 1);
        due(12, "from the first order on", x.has(0, 0), 4);
    }

    private static void leaves() {
        ShufflingBook x = laid("n5;r3;l1,0;");
        due(13, "reader 0", x.leaves(0), 7);
        due(13, "reader 1", x.leaves(1), 25);
        due(13, "the farthest", x.leaves(FAR), 7);
        due(13, "j -1", x.leaves(-1), BAD);
        due(13, "too far", x.leaves(FAR + 1), BAD);
        due(13, "all forty", laid("n40;r40;l1,0;").leaves(3), (1L << 40) - 1);
        due(13, "twice the same", laid("n2;r5;l1,0;").leaves(0), 3);
    }

    private static void period() {
        due(14, "UNDER, 5 and 3", laid("n5;r3;l1,0;").period(), 5);
        due(14, "UNDER, 6 and 4", laid("n6;r4;l1,0;").period(), 3);
        due(14, "UNDER, 4 and 4", laid("n4;r4;l1,0;").period(), 1);
        due(14, "DOWN 0", laid("n4;r3;l0,0;").period(), 1);
        due(14, "CUT of two", laid("n2;r1;l3,0;").period(), 2);
        due(14, "DOWN 2 leaves the others", laid("n7;r1;l0,2;s0,6;").period(), 3);
        // Each reader: 0 down below 1, then 1 as the lowest: 2 to the front, the first one stays.
        due(14, "TURNS", laid("n4;r2;l2,1;").period(), 3);
    }

    private static void ever() {
        ShufflingBook x = laid("n5;r2;l0,2;s0,4;");
        due(15, "never", x.ever(0), 8 + 1);
        due(15, "always", x.ever(1), 0);
        x = laid("n5;r3;l0,2;s0,4;");
        due(15, "always three", x.ever(1), 16 + 4 + 2);
        due(15, "what 2", x.ever(2), BAD);
        due(15, "what -1", x.ever(-1), BAD);
        due(15, "forty", laid("n40;r1;l0,0;").ever(0), (1L << 40) - 2);
        due(15, "by turns", laid("n4;r1;l3,0;").ever(0), 2 + 8);
    }

    private static void right() {
        ShufflingBook x = laid("n5;r3;l1,0;t0;t2;t2;t3;");
        due(16, "two of three", x.right(0), 2);
        due(16, "none", x.right(1), 0);
        due(16, "as reader 0", x.right(FAR), 2);
        due(16, "j -1", x.right(-1), BAD);
        due(16, "too far", x.right(FAR + 1), BAD);
        due(16, "a short tale", laid("n5;r3;l1,0;t0;").right(0), 1);
        due(16, "a tale longer than R", laid("n5;r1;l1,0;t0;t1;").right(0), 1);
        due(16, "no tale", laid("n5;r3;l1,0;").right(0), 0);
    }

    private static void order() {
        ShufflingBook x = laid("n5;r3;l1,0;s0,4;t4;t1;t0;t3;");
        int[] first = {4, 1, 0, 2, 3};
        int[] second = {0, 2, 3, 4, 1};
        for (int p = 0; p < 5; p++) {
            due(17, "reader 0", x.order(0, p), first[p]);
            due(17, "reader 1", x.order(1, p), second[p]);
            due(17, "a far one", x.order(FAR, p), first[p]);
        }
        due(17, "p N", x.order(0, 5), BAD);
        due(17, "p -1", x.order(0, -1), BAD);
        due(17, "j -1", x.order(-1, 0), BAD);
        due(17, "too far", x.order(FAR + 1, 0), BAD);
        x = laid("n3;r3;l1,0;t1;t1;");
        due(17, "a leaf, two places", x.order(0, 2), NONE);
        due(17, "BAD ahead of NONE", x.order(0, 3), BAD);
        due(17, "a place, two leaves", laid("n3;r3;l0,0;t1;t2;").order(0, 0), NONE);
        x = laid("n3;r3;l0,0;t1;t1;");
        due(17, "the same twice", x.order(0, 0), 1);
        due(17, "the lower ahead", x.order(0, 1), 0);
        due(17, "the higher behind", x.order(0, 2), 2);
        due(17, "no tale", laid("n3;r3;l0,0;s0,2;").order(0, 0), 0);
    }

    private static void showsAndQuickest() {
        ShufflingBook x = laid("n4;r1;l0,0;s0,3;");
        due(18, "DOWN 3", x.shows(0, 3), 4);
        due(18, "DOWN 2", x.shows(0, 2), NONE);
        due(18, "UNDER", x.shows(1, 0), 4);
        due(18, "TURNS 3", x.shows(2, 3), 4);
        // 0 1 2 3: 0 above all, then below: 1 2 3 0 in two readings, and so on.
        due(18, "TURNS 0", x.shows(2, 0), 7);
        due(18, "CUT of four", x.shows(3, 0), NONE);
        due(18, "CUT of five", laid("n5;").shows(3, 4), 5);
        due(18, "CUT of two", laid("n2;").shows(3, 0), 2);
        due(18, "TURNS 0 of forty", laid("n40;").shows(2, 0), 79);
        due(18, "K 4", x.shows(4, 0), BAD);
        due(18, "K -1", x.shows(-1, 0), BAD);
        due(18, "A N", x.shows(0, 4), BAD);
        due(18, "A -1", x.shows(0, -1), BAD);
        due(19, "K", x.quickest(0), 0);
        due(19, "A", x.quickest(1), 3);
        due(19, "readings", x.quickest(2), 4);
        due(19, "what 3", x.quickest(3), BAD);
        due(19, "what -1", x.quickest(-1), BAD);
        due(19, "A of forty", laid("n40;").quickest(1), 39);
        due(19, "readings of forty", laid("n40;").quickest(2), 40);
        due(19, "K of two", laid("n2;l1,0;").quickest(0), 0);
    }

    private static void seenAndForget() {
        ShufflingBook x = laid("n5;r3;l1,0;");
        due(20, "j -1", x.seen(-1, 0, 0), BAD);
        due(20, "too far", x.seen(FAR + 1, 0, 0), BAD);
        due(20, "i R", x.seen(0, 3, 0), BAD);
        due(20, "i -1", x.seen(0, -1, 0), BAD);
        due(20, "v N", x.seen(0, 0, 5), BAD);
        due(20, "v -1", x.seen(0, 0, -1), BAD);
        due(21, "none yet", x.forget(), 0);
        for (int k = 1; k <= 12; k++) {
            due(20, "how many", x.seen(FAR, 2, 4), k);
        }
        due(20, "one more", x.seen(0, 0, 0), FULL);
        due(20, "BAD ahead of FULL", x.seen(0, 0, 5), BAD);
        due(20, "count", x.count(5), 12);
        due(22, "twelve times the same", x.so(), 1);
        due(21, "forget", x.forget(), 12);
        due(21, "count", x.count(5), 0);
        due(21, "nothing is seen", x.sure(2), NONE);
        due(20, "from one on", x.seen(0, 0, 0), 1);
    }

    private static void soAndSure() {
        ShufflingBook x = laid("n3;r2;l1,0;");
        due(22, "nothing seen", x.so(), 1);
        due(23, "nothing seen", x.sure(0), NONE);
        x.seen(1, 0, 0);
        due(22, "one", x.so(), 1);
        due(23, "at place 2", x.sure(2), 0);
        due(23, "not at place 0", x.sure(0), NONE);
        x.seen(0, 1, 2);
        due(23, "place 1", x.sure(1), 2);
        due(23, "what is left to place 0", x.sure(0), 1);
        due(23, "p N", x.sure(3), BAD);
        due(23, "p -1", x.sure(-1), BAD);
        x.seen(0, 0, 0);
        due(22, "a leaf, two places", x.so(), 0);
        due(23, "none fits", x.sure(2), NONE);
        due(23, "BAD ahead of NONE", x.sure(3), BAD);
        x.forget();
        x.seen(0, 0, 0);
        x.seen(3, 0, 0);
        due(22, "the same again", x.so(), 1);
        x.seen(3, 0, 1);
        due(22, "a place, two leaves", x.so(), 0);
        x = laid("n2;r1;l1,0;s0,1;");
        x.seen(0, 0, 0);
        due(22, "not the first order, but some", x.so(), 1);
        due(23, "of two the other", x.sure(1), 1);
    }

    private static void lacks() {
        ShufflingBook x = laid("n5;r2;l1,0;s0,4;");
        due(24, "reader 0", x.lacks(4, 0), 0);
        due(24, "his first", x.lacks(4, 1), 0);
        due(24, "reader 2", x.lacks(0, 0), 2);
        due(24, "his first", x.lacks(0, 1), 0);
        due(24, "reader 1", x.lacks(3, 0), 1);
        due(24, "his second", x.lacks(3, 1), 1);
        due(24, "v N", x.lacks(5, 0), BAD);
        due(24, "v -1", x.lacks(-1, 0), BAD);
        due(24, "what 2", x.lacks(0, 2), BAD);
        due(24, "what -1", x.lacks(0, -1), BAD);
        x = laid("n5;r2;l0,1;");
        due(24, "nobody", x.lacks(2, 0), NONE);
        due(24, "nobody's", x.lacks(2, 1), NONE);
        due(24, "reader 39", laid("n40;r1;l1,0;").lacks(39, 0), 39);
        due(24, "his first of many", laid("n2;r9;l1,0;").lacks(1, 1), 1);
    }

    private static void notice() {
        ShufflingBook x = laid("n5;r1;l1,0;");
        due(25, "two of five", x.notice(0, 3, 5), 2);
        due(25, "not yet", x.notice(0, 3, 3), 1);
        due(25, "of a thousand", x.notice(0, 3, 1000), 400);
        due(25, "n 0", x.notice(0, 3, 0), 0);
        due(25, "the same leaf", x.notice(3, 3, 9), 0);
        due(25, "n 1001", x.notice(0, 3, 1001), BAD);
        due(25, "n -1", x.notice(0, 3, -1), BAD);
        due(25, "a N", x.notice(5, 3, 1), BAD);
        due(25, "a -1", x.notice(-1, 3, 1), BAD);
        due(25, "b N", x.notice(0, 5, 1), BAD);
        due(25, "b -1", x.notice(0, -1, 1), BAD);
        due(25, "both N", x.notice(5, 5, 1), BAD);
        due(25, "both with one reader count once", laid("n5;r2;l1,0;").notice(0, 1, 1), 1);
        due(25, "nobody has them", laid("n5;r2;l0,1;").notice(2, 3, 99), 0);
    }

    private static void pleased() {
        // UNDER, three of four: 0 laid at d, then two go under; reader 1 begins with what lay third.
        ShufflingBook x = laid("n4;r3;l1,0;t0;t3;");
        due(26, "d", x.pleased(1, 0), 2);
        due(26, "right", x.pleased(1, 1), 2);
        due(26, "no tale: the least d", laid("n4;r3;l1,0;").pleased(1, 0), 0);
        due(26, "no tale: none", laid("n4;r3;l1,0;").pleased(100, 1), 0);
        due(26, "j 0", x.pleased(0, 0), BAD);
        due(26, "j 101", x.pleased(101, 0), BAD);
        due(26, "what 2", x.pleased(1, 2), BAD);
        due(26, "what -1", x.pleased(1, -1), BAD);
        // CUT, one of four: no half goes below at that reading, so leaf 1 on top is the only other way.
        x = laid("n4;r1;l3,0;t1;");
        due(26, "CUT, d", x.pleased(1, 0), 1);
        due(26, "CUT, right", x.pleased(1, 1), 1);
        x = laid("n4;r1;l3,0;t2;");
        due(26, "CUT, never leaf 2", x.pleased(1, 1), 0);
        due(26, "CUT, leaf 2 for the next one, d", x.pleased(2, 0), 0);
        due(26, "CUT, leaf 2 for the next one", x.pleased(2, 1), 1);
        // TURNS: his second reading goes under, whatever d was; reader 1 begins with what lay second.
        x = laid("n3;r2;l2,0;t0;");
        due(26, "TURNS, d", x.pleased(1, 0), 1);
        due(26, "TURNS, right", x.pleased(1, 1), 1);
        x.read();
        x.change(0, 1);
        due(26, "from the first order on", x.pleased(1, 0), 1);
    }

    private static void keepAndBack() {
        ShufflingBook x = laid("n4;r3;l1,0;");
        due(28, "nothing kept", x.back(), NO);
        x.finish();
        x.read();
        due(27, "one", x.keep(), 1);
        x.change(0, 1);
        x.finish();
        x.read();
        x.read();
        due(27, "two", x.keep(), 2);
        due(27, "no more", x.keep(), FULL);
        due(27, "count", x.count(6), 2);
        x.drop(5);
        x.finish();
        due(28, "one left", x.back(), 1);
        dueOrder(28, "the last", x, 1, 0, 2, 3);
        due(28, "read", x.count(3), 2);
        due(28, "done", x.count(4), 2);
        due(28, "none left", x.back(), 0);
        dueOrder(28, "the first", x, 0, 1, 2, 3);
        due(28, "read", x.count(3), 1);
        due(28, "done", x.count(4), 1);
        due(28, "no more", x.back(), NO);
        due(27, "again", x.keep(), 1);
        x.read();
        due(28, "kept apart", x.back(), 0);
        dueOrder(28, "kept apart", x, 0, 1, 2, 3);
    }

    private static void count() {
        ShufflingBook x = laid("n4;r3;l1,0;t0;t0;");
        x.finish();
        x.finish();
        x.read();
        x.seen(0, 0, 0);
        x.seen(0, 0, 0);
        x.seen(0, 0, 0);
        x.keep();
        int[] counts = {4, 3, 2, 1, 2, 3, 1, 17};
        for (int k = 0; k < counts.length; k++) {
            due(29, "count " + k, x.count(k), counts[k]);
        }
        due(29, "what 8", x.count(8), BAD);
        due(29, "what -1", x.count(-1), BAD);
    }

    public static void main(String[] args) {
        newObject();
        write();
        wipe();
        fault();
        lay();
        leafAndWhere();
        read();
        finish();
        change();
        drop();
        has();
        leaves();
        period();
        ever();
        right();
        order();
        showsAndQuickest();
        seenAndForget();
        soAndSure();
        lacks();
        notice();
        pleased();
        keepAndBack();
        count();
        System.out.println(wrong == 0 ? "all promises hold" : wrong + " answers are not as due");
        if (wrong != 0) {
            System.exit(1);
        }
    }
}
