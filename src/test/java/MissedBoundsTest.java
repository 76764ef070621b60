/** Each sentence on LACKS, NOTICE and PLEASED that names a bound, and of the counts; promises 24 to 26 and 29. */
public final class MissedBoundsTest {
    /** UNDER: LEAF v is first had by READER v / R, as his v modulo R. */
    private static void firstWhoLacks() {
        for (int n = 2; n <= 40; n++) {
            for (int r : new int[] {1, 2, n - 1, n, 39, 40}) {
                ShufflingBook x = Bench.laid("n" + n + ";r" + r + ";l1,0;");
                for (int v = 0; v < n; v++) {
                    Bench.due("of " + n + ", R " + r + ": lacks(" + v + ", 0)", x.lacks(v, 0), v / r);
                    Bench.due("of " + n + ", R " + r + ": lacks(" + v + ", 1)", x.lacks(v, 1), v % r);
                }
            }
        }
        ShufflingBook x = Bench.laid("n3;r3;l0,1;s0,2;");
        Bench.due("his first of two", x.lacks(2, 1), 0);
        Bench.due("his second", x.lacks(1, 1), 1);
        Bench.due("none", x.lacks(0, 0), Bench.NONE);
        Bench.due("none", x.lacks(0, 1), Bench.NONE);
        // DOWN: LEAF A is the last that comes to the top.
        for (int a = 0; a < 39; a++) {
            x = Bench.laid("n40;r1;l0," + a + ";");
            Bench.due("DOWN " + a + ": the last had", x.lacks(a, 0), a);
            Bench.due("DOWN " + a + ": the first not had", x.lacks(a + 1, 0), Bench.NONE);
            Bench.due("DOWN " + a + ": as his none", x.lacks(a + 1, 1), Bench.NONE);
        }
    }

    private static void lacksBad() {
        for (int n = 2; n <= 40; n++) {
            ShufflingBook x = Bench.laid("n" + n + ";");
            for (int v : new int[] {-1, n, 40, Integer.MIN_VALUE, Integer.MAX_VALUE}) {
                Bench.due("of " + n + ": lacks(" + v + ", 0)", x.lacks(v, 0), Bench.BAD);
                Bench.due("of " + n + ": lacks(" + v + ", 1)", x.lacks(v, 1), Bench.BAD);
            }
            for (int what : new int[] {-1, 2, Integer.MIN_VALUE, Integer.MAX_VALUE}) {
                Bench.due("of " + n + ": lacks(0, " + what + ")", x.lacks(0, what), Bench.BAD);
            }
        }
    }

    private static void whoNotices() {
        ShufflingBook x = Bench.laid("n5;r1;l1,0;");
        int[] readers = {0, 1, 2, 3, 4, 5, 6, 998, 999, 1000};
        int[] ends = {0, 1, 1, 1, 1, 2, 3, 399, 399, 400};
        for (int k = 0; k < readers.length; k++) {
            Bench.due("notice(0, 4, " + readers[k] + ")", x.notice(0, 4, readers[k]), ends[k]);
            Bench.due("notice(4, 0, " + readers[k] + ")", x.notice(4, 0, readers[k]), ends[k]);
            Bench.due("notice(2, 2, " + readers[k] + ")", x.notice(2, 2, readers[k]), 0);
            Bench.due("has of " + readers[k], x.has(readers[k], 0), readers[k] % 5);
        }
        x = Bench.laid("n5;r1;l0,2;");
        for (int k = 0; k < readers.length; k++) {
            int each = (readers[k] + 2) / 3;
            Bench.due("one never had: notice(3, 0, " + readers[k] + ")", x.notice(3, 0, readers[k]), each);
            Bench.due("both never had: notice(3, 4, " + readers[k] + ")", x.notice(3, 4, readers[k]), 0);
        }
        x = Bench.laid("n5;r4;l1,0;");
        Bench.due("both, one reader", x.notice(0, 3, 1), 1);
        Bench.due("his last alone", x.notice(3, 4, 1), 1);
        Bench.due("all of a thousand", x.notice(1, 3, 1000), 1000);
    }

    private static void noticeBad() {
        for (int n = 2; n <= 40; n++) {
            ShufflingBook x = Bench.laid("n" + n + ";r40;l1,0;");
            Bench.due("of " + n + ": the first and the last", x.notice(0, n - 1, 1), 1);
            for (int v : new int[] {-1, n, 40, Integer.MIN_VALUE, Integer.MAX_VALUE}) {
                Bench.due("of " + n + ": notice(" + v + ", 0, 0)", x.notice(v, 0, 0), Bench.BAD);
                Bench.due("of " + n + ": notice(0, " + v + ", 0)", x.notice(0, v, 0), Bench.BAD);
                Bench.due("of " + n + ": notice(" + v + ", " + v + ", 0)", x.notice(v, v, 0), Bench.BAD);
            }
            for (int readers : new int[] {-1, 1001, Integer.MIN_VALUE, Integer.MAX_VALUE}) {
                Bench.due("of " + n + ": notice(0, 1, " + readers + ")", x.notice(0, 1, readers), Bench.BAD);
                Bench.due("of " + n + ": notice(1, 1, " + readers + ")", x.notice(1, 1, readers), Bench.BAD);
            }
        }
    }

    /** UNDER, one each: READER j reads what lay at PLACE j less 1 (round and round) when READER 0 had done. */
    private static void eachD() {
        for (int n = 2; n <= 40; n++) {
            ShufflingBook x = Bench.laid("n" + n + ";r1;l1,0;s0," + (n - 1) + ";t" + (n - 1) + ";");
            for (int j = 1; j <= 100; j++) {
                Bench.due("of " + n + ": pleased(" + j + ", 0)", x.pleased(j, 0), (j - 1) % n);
                Bench.due("of " + n + ": pleased(" + j + ", 1)", x.pleased(j, 1), 1);
            }
        }
    }

    private static void leastD() {
        ShufflingBook x = Bench.laid("n5;r1;l1,0;t1;");
        Bench.due("all d but 0 do: the least", x.pleased(1, 0), 1);
        Bench.due("how many", x.pleased(1, 1), 1);
        x = Bench.laid("n5;r1;l1,0;t2;");
        Bench.due("no d does: the least", x.pleased(1, 0), 0);
        Bench.due("none right", x.pleased(1, 1), 0);
        // READER 1 has 1 2, 0 2, 2 0, 2 3, 2 3 by d 0 to 4: 0 is laid at d, and the next one goes under.
        x = Bench.laid("n5;r2;l1,0;t4;t0;");
        Bench.due("one right by d 2 alone", x.pleased(1, 0), 2);
        Bench.due("how many", x.pleased(1, 1), 1);
        x = Bench.laid("n5;r2;l1,0;t2;t0;");
        Bench.due("both right by d 2, one by d 3", x.pleased(1, 0), 2);
        Bench.due("how many", x.pleased(1, 1), 2);
        x = Bench.laid("n5;r2;l1,0;t2;t3;");
        Bench.due("both right by d 3 and 4, one by d 2", x.pleased(1, 0), 3);
        Bench.due("how many", x.pleased(1, 1), 2);
    }

    private static void emptyTale() {
        ShufflingBook x = Bench.laid("n5;r2;l1,0;");
        Bench.due("an empty tale: d", x.pleased(1, 0), 0);
        Bench.due("an empty tale: right", x.pleased(100, 1), 0);
        x = Bench.laid("n5;r1;l1,0;t1;t2;t3;");
        Bench.due("longer than R: right", x.pleased(1, 1), 1);
        // READER 0 lays 0 as the lowest, and 39 more go under: 0 is at the top again.
        x = Bench.laid("n20;r40;l1,0;" + Bench.items("t#;", 0, 19));
        Bench.due("all twenty: d", x.pleased(1, 0), 19);
        Bench.due("all twenty: right", x.pleased(1, 1), 20);
    }

    /** 0 is laid at d, and no half goes below: READER 1 has the top, READER 2 what lay at PLACE 2 (N by 2) then. */
    private static void pleasedByCut() {
        int[] topOf = {0, 1, 1, 1, 1};
        int[] thirdOf = {2, 2, 0, 3, 3};
        for (int t = 0; t < 5; t++) {
            ShufflingBook x = Bench.laid("n5;r1;l3,0;t" + t + ";");
            int first = firstAt(topOf, t);
            int second = firstAt(thirdOf, t);
            Bench.due("odd, t" + t + ": pleased(1, 0)", x.pleased(1, 0), Math.max(first, 0));
            Bench.due("odd, t" + t + ": pleased(1, 1)", x.pleased(1, 1), first < 0 ? 0 : 1);
            Bench.due("odd, t" + t + ": pleased(2, 0)", x.pleased(2, 0), Math.max(second, 0));
            Bench.due("odd, t" + t + ": pleased(2, 1)", x.pleased(2, 1), second < 0 ? 0 : 1);
        }
        int[] thirdOfFour = {2, 2, 0, 3};
        for (int t = 0; t < 4; t++) {
            ShufflingBook x = Bench.laid("n4;r1;l3,0;t" + t + ";");
            int second = firstAt(thirdOfFour, t);
            Bench.due("even, t" + t + ": pleased(2, 0)", x.pleased(2, 0), Math.max(second, 0));
            Bench.due("even, t" + t + ": pleased(2, 1)", x.pleased(2, 1), second < 0 ? 0 : 1);
        }
        // His second READING is by LAW again: a half goes below, and READER 1 has the third first.
        ShufflingBook x = Bench.laid("n5;r2;l3,0;t3;");
        Bench.due("R 2: d", x.pleased(1, 0), 3);
        Bench.due("R 2: right", x.pleased(1, 1), 1);
    }

    private static int firstAt(int[] row, int number) {
        for (int k = 0; k < row.length; k++) {
            if (row[k] == number) {
                return k;
            }
        }
        return -1;
    }

    /** TURNS: READER 0's second goes under, and so READER 1's first is his first time again. */
    private static void pleasedByTurns() {
        ShufflingBook x = Bench.laid("n3;r2;l2,0;t0;t0;");
        Bench.due("d", x.pleased(1, 0), 1);
        Bench.due("right", x.pleased(1, 1), 2);
        x = Bench.laid("n3;r1;l2,0;t1;");
        Bench.due("R 1: d", x.pleased(100, 0), 1);
        Bench.due("R 1: right", x.pleased(100, 1), 1);
    }

    private static void pleasedBad() {
        ShufflingBook x = Bench.laid("n5;r1;l1,0;t0;");
        Bench.due("the first", x.pleased(1, 0), 0);
        Bench.due("the hundredth", x.pleased(100, 0), 4);
        for (int j : new int[] {0, -1, 101, Integer.MIN_VALUE, Integer.MAX_VALUE}) {
            Bench.due("pleased(" + j + ", 0)", x.pleased(j, 0), Bench.BAD);
            Bench.due("pleased(" + j + ", 1)", x.pleased(j, 1), Bench.BAD);
        }
        for (int what : new int[] {-1, 2, Integer.MIN_VALUE, Integer.MAX_VALUE}) {
            Bench.due("pleased(1, " + what + ")", x.pleased(1, what), Bench.BAD);
        }
    }

    private static void counts() {
        ShufflingBook x = Bench.laid("n4;r5;l1,0;t0;t0;t0;");
        x.finish();
        x.finish();
        x.read();
        for (int k = 0; k < 6; k++) {
            x.seen(0, 0, 0);
        }
        x.keep();
        x.keep();
        x.read();
        x.read();
        x.read();
        Bench.write(x, "12345");
        int[] counts = {4, 5, 3, 4, 2, 6, 2, 25};
        for (int what = 0; what < 8; what++) {
            Bench.due("count(" + what + ")", x.count(what), counts[what]);
        }
        for (int what : new int[] {-1, 8, Integer.MIN_VALUE, Integer.MAX_VALUE}) {
            Bench.due("count(" + what + ")", x.count(what), Bench.BAD);
        }
    }

    public static void main(String[] args) {
        Bench.sentence("LACKS: the first READER who would have had it; as his how-manieth first; none",
            MissedBoundsTest::firstWhoLacks);
        Bench.sentence("24: the READER (what = 0), the how-manieth (1); BAD", MissedBoundsTest::lacksBad);
        Bench.sentence("NOTICE: how many of the READERS 0 to n less 1 (n 0 to 1000)", MissedBoundsTest::whoNotices);
        Bench.sentence("25: BAD", MissedBoundsTest::noticeBad);
        Bench.sentence("PLEASED for READER j (1 to 100), d LEAVES (0 to N less 1)", MissedBoundsTest::eachD);
        Bench.sentence("PLEASED: most RIGHT, the least such; how many", MissedBoundsTest::leastD);
        Bench.sentence("PLEASED: RIGHT (below R and how long the TALE is)", MissedBoundsTest::emptyTale);
        Bench.sentence("PLEASED: for CUT no half goes below at that READING", MissedBoundsTest::pleasedByCut);
        Bench.sentence("PLEASED: all else by LAW", MissedBoundsTest::pleasedByTurns);
        Bench.sentence("26: d (what = 0), RIGHT (1); BAD", MissedBoundsTest::pleasedBad);
        Bench.sentence("29: 0 to 7; BAD", MissedBoundsTest::counts);
        Bench.end();
    }
}
