/** Each sentence of "Terms" 1 and of promises 1 to 5 that names a bound of a text. */
public final class TextBoundsTest {
    private static final String[] ONE_NUMBER = {"n", "r", "t"};
    private static final String[] TWO_NUMBERS = {"l", "s"};

    private static boolean within(int x, int lowest, int highest) {
        return x >= lowest && x <= highest;
    }

    private static void dueFault(String text, int want) {
        Bench.due("fault() of " + text, Bench.written(text).fault(), want);
    }

    private static void dueLaid(String text, int want) {
        Bench.due("lay() of " + text, Bench.written(text).lay(), want);
    }

    /** A number in all ways that one or two figures write it. */
    private static String[] ways(int x) {
        return x < 10 ? new String[] {"" + x, "0" + x} : new String[] {"" + x};
    }

    private static ShufflingBook filled(int length) {
        return Bench.written("#".repeat(length));
    }

    private static void newObject() {
        ShufflingBook x = new ShufflingBook();
        int[] counts = {10, 9, 0, 0, 0, 0, 0, 0};
        for (int k = 0; k < counts.length; k++) {
            Bench.due("count(" + k + ")", x.count(k), counts[k]);
        }
        Bench.due("fault()", x.fault(), Bench.NONE);
        Bench.duePack("new", x, 0, 1, 2, 3, 4, 5, 6, 7, 8, 9);
        Bench.due("read()", x.read(), 0);
        Bench.duePack("read by DOWN, 2", x, 1, 2, 0, 3, 4, 5, 6, 7, 8, 9);
        Bench.due("back()", x.back(), Bench.NO);
        Bench.due("forget()", x.forget(), 0);
        Bench.due("wipe()", x.wipe(), 0);
        Bench.due("lay()", x.lay(), 10);
        Bench.duePack("laid", x, 0, 1, 2, 3, 4, 5, 6, 7, 8, 9);
    }

    private static void bytesAtOnce() {
        String text = "n12;r34;";
        for (int n = 1; n <= 8; n++) {
            long v = -1;
            for (int k = 0; k < n; k++) {
                v = v << 8 | text.charAt(k);
            }
            ShufflingBook x = new ShufflingBook();
            Bench.due("write(" + n + ", " + v + ")", x.write(n, v), n);
            Bench.write(x, text.substring(n));
            Bench.due("count(7)", x.count(7), 8);
            Bench.due("lay()", x.lay(), 12);
            Bench.due("count(1)", x.count(1), 34);
        }
        for (int n : new int[] {0, 9, -1, 16, Integer.MIN_VALUE, Integer.MAX_VALUE}) {
            ShufflingBook x = new ShufflingBook();
            Bench.due("write(" + n + ", 0)", x.write(n, 0), Bench.BAD);
            Bench.due("count(7)", x.count(7), 0);
        }
    }

    private static void threeHundredBytes() {
        for (int n = 1; n <= 8; n++) {
            ShufflingBook x = filled(300 - n);
            Bench.due("the last " + n, x.write(n, 0), 300);
            for (int more = 1; more <= 8; more++) {
                Bench.due("300 and " + more, x.write(more, 0), Bench.FULL);
            }
            Bench.due("count(7)", x.count(7), 300);
            x = filled(301 - n);
            Bench.due("one too many of " + n, x.write(n, 0), Bench.FULL);
            Bench.due("count(7)", x.count(7), 301 - n);
            Bench.due("wipe()", x.wipe(), 301 - n);
            Bench.due("room again", x.write(n, 0), n);
        }
    }

    private static void fullTextIsRead() {
        dueFault("n10;".repeat(75), Bench.NONE);
        dueLaid("n10;".repeat(74) + "n40;", 40);
        dueFault("n10;".repeat(74) + "n10,", 296);
        dueFault("n10;".repeat(74) + "n10", 296);
        dueFault("n10;".repeat(73) + "r1;r1;n5", 298);
        dueFault("n10;".repeat(74) + "r1;x", 299);
        dueFault("n10;".repeat(74) + "r1;n", 299);
        dueFault("x" + "n10;".repeat(74), 0);
    }

    private static void wiped() {
        ShufflingBook x = Bench.written("n5;");
        Bench.due("wipe()", x.wipe(), 3);
        Bench.due("empty: wipe()", x.wipe(), 0);
        Bench.due("empty: count(7)", x.count(7), 0);
        Bench.due("empty: fault()", x.fault(), Bench.NONE);
        Bench.write(x, "n");
        Bench.due("n alone, 5; was wiped", x.fault(), 0);
        Bench.write(x, "6");
        Bench.due("n6, ; was wiped", x.fault(), 0);
        Bench.write(x, ";");
        Bench.due("n6;", x.lay(), 6);
        x = filled(300);
        Bench.due("300", x.wipe(), 300);
        Bench.due("empty: lay()", x.lay(), 10);
        x = Bench.laid("n4;s0,1;t1;");
        x.wipe();
        Bench.due("what is laid stays", x.count(0), 4);
    }

    private static void oneOrTwoFigures() {
        for (String letter : ONE_NUMBER) {
            dueFault(letter + ";", 0);
            dueFault(letter + "4;", Bench.NONE);
            dueFault(letter + "04;", Bench.NONE);
            dueFault(letter + "14;", Bench.NONE);
            dueFault(letter + "004;", 0);
            dueFault(letter + "104;", 0);
        }
        for (String letter : TWO_NUMBERS) {
            dueFault(letter + ",1;", 0);
            dueFault(letter + "1,;", 0);
            dueFault(letter + ",;", 0);
            dueFault(letter + "1,1;", Bench.NONE);
            dueFault(letter + "01,1;", Bench.NONE);
            dueFault(letter + "1,01;", Bench.NONE);
            dueFault(letter + "01,11;", Bench.NONE);
            dueFault(letter + "001,1;", 0);
            dueFault(letter + "1,001;", 0);
            dueFault(letter + "1,111;", 0);
        }
        // The signs next to the figures are none: / and :
        dueFault("n/5;", 0);
        dueFault("n1/;", 0);
        dueFault("n1:;", 0);
        dueFault("n:;", 0);
        dueFault("n19;r09;", Bench.NONE);
        dueFault("n20;r10;", Bench.NONE);
    }

    private static void parted() {
        for (String letter : ONE_NUMBER) {
            dueFault(letter + "4", 0);
            dueFault(letter + "4,", 0);
            dueFault(letter + "4,4;", 0);
            dueFault(letter + "4;;", 3);
            dueFault(letter + "4;" + letter + "14", 3);
        }
        for (String letter : TWO_NUMBERS) {
            dueFault(letter + "1", 0);
            dueFault(letter + "1;", 0);
            dueFault(letter + "1,", 0);
            dueFault(letter + "1,1", 0);
            dueFault(letter + "1,1,", 0);
            dueFault(letter + "1,1,1;", 0);
            dueFault(letter + "1;1;", 0);
            dueFault(letter + "1,,1;", 0);
            dueFault(letter + "11;", 0);
            dueFault(letter + "1,1;;", 5);
        }
    }

    private static void aLetter() {
        for (int sign = 0; sign < 256; sign++) {
            boolean one = "nrt".indexOf(sign) >= 0;
            boolean two = "ls".indexOf(sign) >= 0;
            dueFault((char) sign + "3;", one ? Bench.NONE : 0);
            dueFault((char) sign + "3,3;", two ? Bench.NONE : 0);
            dueFault("n3;" + (char) sign + ";", 3);
        }
    }

    private static void leaves() {
        for (int v = 0; v <= 99; v++) {
            boolean right = within(v, 2, 40);
            for (String number : ways(v)) {
                dueFault("n" + number + ";", right ? Bench.NONE : 0);
                ShufflingBook x = Bench.written("n" + number + ";");
                Bench.due("lay() of n" + number, x.lay(), right ? v : Bench.NO);
                Bench.due("count(0)", x.count(0), right ? v : 10);
            }
        }
        dueLaid("r1;", 10);
        dueLaid("n40;n2;", 2);
        dueLaid("n2;n40;", 40);
        dueLaid("n2;n3;n4;", 4);
        dueFault("n41;n2;", 0);
        dueFault("n2;n1;n2;", 3);
    }

    private static void perReader() {
        for (int v = 0; v <= 99; v++) {
            boolean right = within(v, 1, 40);
            for (String number : ways(v)) {
                dueFault("r" + number + ";", right ? Bench.NONE : 0);
                ShufflingBook x = Bench.written("r" + number + ";");
                Bench.due("lay() of r" + number, x.lay(), right ? 10 : Bench.NO);
                Bench.due("count(1)", x.count(1), right ? v : 9);
            }
        }
        Bench.due("without", Bench.laid("n5;").count(1), 9);
        Bench.due("the last", Bench.laid("r40;r1;").count(1), 1);
        Bench.due("the last", Bench.laid("r1;r40;").count(1), 40);
        dueFault("r0;r1;", 0);
        dueFault("r1;r41;r1;", 3);
    }

    private static void law() {
        for (int v = 0; v <= 99; v++) {
            for (String number : ways(v)) {
                dueFault("l" + number + ",0;", within(v, 0, 3) ? Bench.NONE : 0);
                dueFault("l" + number + ",39;", within(v, 0, 3) ? Bench.NONE : 0);
                dueFault("l" + number + ",40;", 0);
                dueFault("l0," + number + ";", within(v, 0, 39) ? Bench.NONE : 0);
                dueFault("l3," + number + ";", within(v, 0, 39) ? Bench.NONE : 0);
                dueFault("l4," + number + ";", 0);
            }
        }
        ShufflingBook x = Bench.laid("n5;");
        x.read();
        Bench.duePack("without", x, 1, 2, 0, 3, 4);
        x = Bench.laid("n5;l1,0;l3,3;l0,1;");
        x.read();
        Bench.duePack("the last, l0,1", x, 1, 0, 2, 3, 4);
        x = Bench.laid("n5;l0,1;l1,0;");
        x.read();
        Bench.duePack("the last, l1,0", x, 1, 2, 3, 4, 0);
        // All that A may be is allowed in a text of few leaves.
        dueLaid("n2;l0,39;", 2);
        dueLaid("l3,39;n2;", 2);
    }

    private static void swapped() {
        for (int v = 0; v <= 99; v++) {
            boolean right = within(v, 0, 39);
            for (String number : ways(v)) {
                dueFault("n40;s" + number + ",0;", right ? Bench.NONE : 4);
                dueFault("n40;s0," + number + ";", right ? Bench.NONE : 4);
                dueFault("n40;s" + number + "," + number + ";", right ? Bench.NONE : 4);
                dueLaid("n40;s" + number + ",39;", right ? 40 : Bench.NO);
                dueLaid("n40;s39," + number + ";", right ? 40 : Bench.NO);
            }
        }
    }

    private static void twentySwapped() {
        String twenty = Bench.items("s0,#;", 1, 20).replace("s0,1;", "s0,01;");
        for (int k = 0; k <= 20; k++) {
            // One behind the other: each leaf but the last goes one place down.
            ShufflingBook x = Bench.laid("n40;" + Bench.items("s0,#;", 1, k));
            Bench.due(k + " swaps: leaf(0, 1)", x.leaf(0, 1), k);
            for (int p = 1; p < 40; p++) {
                Bench.due(k + " swaps: leaf(" + p + ", 1)", x.leaf(p, 1), p <= k ? p - 1 : p);
            }
        }
        int length = twenty.length();
        dueFault(twenty, Bench.NONE);
        dueFault(twenty + "s0,1;", length);
        dueFault(twenty + "n20;s0,1;", length + 4);
        dueFault(twenty + "s0,1;s0,1;", length);
        dueFault(twenty + "t0;".repeat(20), Bench.NONE);
        dueFault("t0;".repeat(20) + twenty, Bench.NONE);
        dueFault(twenty + "t0;".repeat(20) + "s0,1;", length + 60);
        dueLaid(twenty + "n40;s0,1;", Bench.NO);
        ShufflingBook x = Bench.laid(twenty + "n40;");
        x.wipe();
        Bench.write(x, "n40;" + twenty);
        Bench.due("twenty again: lay()", x.lay(), 40);
        x.wipe();
        x.lay();
        Bench.due("none again: leaf(0, 1)", x.leaf(0, 1), 0);
    }

    private static void told() {
        for (int v = 0; v <= 99; v++) {
            boolean right = within(v, 0, 39);
            for (String number : ways(v)) {
                dueFault("n40;t" + number + ";", right ? Bench.NONE : 4);
                ShufflingBook x = Bench.written("n40;r1;l0,0;s0," + (right ? number : "1") + ";t" + number + ";");
                Bench.due("lay() with t" + number, x.lay(), right ? 40 : Bench.NO);
                Bench.due("right(0) with t" + number, x.right(0), right ? 1 : 0);
            }
        }
    }

    private static void twentyTold() {
        for (int k = 0; k <= 20; k++) {
            ShufflingBook x = Bench.laid("n20;r20;l1,0;" + Bench.items("t#;", 0, k - 1));
            Bench.due(k + " told: count(2)", x.count(2), k);
            Bench.due(k + " told: right(0)", x.right(0), k);
        }
        String twenty = "t0;".repeat(20);
        dueFault(twenty, Bench.NONE);
        dueFault(twenty + "t0;", 60);
        dueFault(twenty + "r5;t0;", 63);
        dueFault(twenty + "t0;t0;", 60);
        dueFault(twenty + "s0,1;".repeat(20) + "t0;", 160);
        dueLaid(twenty + "t0;", Bench.NO);
        ShufflingBook x = Bench.laid(twenty);
        x.wipe();
        Bench.write(x, twenty);
        Bench.due("twenty again: lay()", x.lay(), 10);
        Bench.due("twenty again: count(2)", x.count(2), 20);
        x.wipe();
        x.lay();
        Bench.due("none again: count(2)", x.count(2), 0);
    }

    private static void firstFault() {
        dueFault("", Bench.NONE);
        dueFault("x", 0);
        dueFault("n2;x", 3);
        dueFault("n2;n41;r0;", 3);
        dueFault("n02;n41;r0;", 4);
        dueFault("n2;r1;l0,0;s0,0;t0;x", 19);
        dueFault("n41;n2;r1;", 0);
        dueFault("n2;s0,40;t40;", 3);
        // Not below N is no fault.
        dueFault("n2;s2,0;t2;", Bench.NONE);
    }

    private static void laidBelowN() {
        for (int n = 2; n <= 40; n++) {
            String count = "n" + n + ";";
            for (int v = 0; v <= 40; v++) {
                int want = v < n ? n : Bench.NO;
                dueLaid(count + "s0," + v + ";", want);
                dueLaid(count + "s" + v + ",0;", want);
                dueLaid("s" + v + "," + v + ";" + count, want);
                dueLaid(count + "t" + v + ";", want);
                dueLaid("t" + v + ";" + count, want);
            }
        }
        dueLaid("s9,0;t9;", 10);
        dueLaid("s10,0;", Bench.NO);
        dueLaid("s0,10;", Bench.NO);
        dueLaid("t10;", Bench.NO);
        dueLaid("n2;s0,1;s1,2;", Bench.NO);
        dueLaid("n2;s2,1;s1,0;", Bench.NO);
        dueLaid("n2;t0;t2;t1;", Bench.NO);
        dueLaid("n5;" + "t4;".repeat(19) + "t5;", Bench.NO);
        dueLaid("n5;" + "s4,4;".repeat(19) + "s4,5;", Bench.NO);
        dueLaid("n40;s39,0;t39;n39;", Bench.NO);
        dueLaid("n39;s39,0;t39;n40;", 40);
    }

    private static void layBeginsAnew() {
        ShufflingBook x = Bench.laid("n4;r3;l1,0;s0,3;t0;");
        x.finish();
        x.read();
        x.change(0, 1);
        x.keep();
        x.keep();
        for (int k = 0; k < 12; k++) {
            x.seen(0, 0, k % 2);
        }
        Bench.due("lay()", x.lay(), 4);
        int[] counts = {4, 3, 1, 0, 0, 0, 0, 19};
        for (int k = 0; k < counts.length; k++) {
            Bench.due("count(" + k + ")", x.count(k), counts[k]);
        }
        Bench.duePack("the first order", x, 3, 1, 2, 0);
        Bench.due("nothing seen: so()", x.so(), 1);
        Bench.due("nothing kept: back()", x.back(), Bench.NO);
        Bench.due("keep()", x.keep(), 1);
        Bench.due("seen(0, 0, 0)", x.seen(0, 0, 0), 1);
        Bench.due("finish()", x.finish(), 3);
        x.wipe();
        Bench.due("an empty text: lay()", x.lay(), 10);
        Bench.due("count(1)", x.count(1), 9);
        Bench.due("count(2)", x.count(2), 0);
        Bench.duePack("an empty text", x, 0, 1, 2, 3, 4, 5, 6, 7, 8, 9);
    }

    private static void notLaid() {
        for (String text : new String[] {"n7;r5;l1,1;s0,7;", "n7;t7;", "n7;r5;s0,1;x", "n41;", "r0;", "n7"}) {
            ShufflingBook x = Bench.written(text);
            Bench.due("lay() of " + text, x.lay(), Bench.NO);
            int[] counts = {10, 9, 0, 0, 0, 0, 0, text.length()};
            for (int k = 0; k < counts.length; k++) {
                Bench.due("count(" + k + ")", x.count(k), counts[k]);
            }
            Bench.due("period()", x.period(), 1);
            x.read();
            Bench.duePack("as at first, not by " + text, x, 1, 2, 0, 3, 4, 5, 6, 7, 8, 9);
        }
    }

    /** Of what was laid or written before nothing is left: all is as on a new object. */
    private static void layAnotherText() {
        String[] before = {
            "n40;r40;l1,39;" + Bench.items("s#,39;", 0, 19) + "t39;".repeat(20), "n6;r2;l3,1;s2,5;t5;",
            "n9;r1;l2,8;s8,1;t8;"
        };
        String[] texts = {"", "n5;", "n2;r1;", "n5;r1;l1,0;t2;", "n7;r3;l2,0;s0,1;t1;t2;", "r3;t9;", "s9,9;", "l0,1;"};
        for (String old : before) {
            for (String text : texts) {
                Answers want = Answers.of(Bench.laid(text));
                ShufflingBook x = Bench.laid(old);
                x.lay();
                x.wipe();
                Bench.write(x, text);
                x.lay();
                Answers.of(x).due(text + " behind " + old, want);
                x = Bench.written(old);
                x.fault();
                x.wipe();
                Bench.write(x, text);
                x.lay();
                Answers.of(x).due(text + " behind the fault of " + old, want);
            }
        }
    }

    public static void main(String[] args) {
        Bench.sentence("1: An empty TEXT is LAID", TextBoundsTest::newObject);
        Bench.sentence("2: The lowest n bytes (1 to 8) of v, the highest of these first", TextBoundsTest::bytesAtOnce);
        Bench.sentence("A TEXT is bytes (300 at most); 2: FULL", TextBoundsTest::threeHundredBytes);
        Bench.sentence("A TEXT is ITEMS one behind the other, to its last byte", TextBoundsTest::fullTextIsRead);
        Bench.sentence("3: THE TEXT is empty: how long it was", TextBoundsTest::wiped);
        Bench.sentence("each a letter", TextBoundsTest::aLetter);
        Bench.sentence("numbers (one or two figures)", TextBoundsTest::oneOrTwoFigures);
        Bench.sentence("parted by , and ; (behind the last one, too)", TextBoundsTest::parted);
        Bench.sentence("nN (2 to 40; 10 without; the last one counts)", TextBoundsTest::leaves);
        Bench.sentence("rR (1 to 40; 9 without; the last one counts)", TextBoundsTest::perReader);
        Bench.sentence("lK,A (K 0 to 3, A 0 to 39; 0, 2 without; the last one counts)", TextBoundsTest::law);
        Bench.sentence("sP,Q (0 to 39 each)", TextBoundsTest::swapped);
        Bench.sentence("sP,Q: 20 at most, one behind the other", TextBoundsTest::twentySwapped);
        Bench.sentence("tV (0 to 39)", TextBoundsTest::told);
        Bench.sentence("tV: 20 at most", TextBoundsTest::twentyTold);
        Bench.sentence("FAULT: the place (from 0 on) of the first byte of the first ITEM that is not so; 4: NONE",
            TextBoundsTest::firstFault);
        Bench.sentence("LAID is a TEXT whose PLACES of s and LEAVES of t are below N", TextBoundsTest::laidBelowN);
        Bench.sentence("5: THE PACK in the FIRST ORDER, nothing read, SEEN, KEPT (THE TEXT stays)",
            TextBoundsTest::layBeginsAnew);
        Bench.sentence("5: LAID: how many LEAVES; THE PACK in the FIRST ORDER", TextBoundsTest::layAnotherText);
        Bench.sentence("NO else; an empty one at first", TextBoundsTest::notLaid);
        Bench.end();
    }
}
