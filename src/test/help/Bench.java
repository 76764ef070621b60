/** What the tests of the bounds share: sentences of the document, objects with a text, answers compared. */
final class Bench {
    static final int BAD = -1, NO = -2, FULL = -3, NONE = -4;
    static final long FAR = 1000000000000L;
    private static final int MOST_TOLD = 10;
    private static String sentence = "";
    private static int sentences = 0;
    private static int answers = 0;
    private static int wrong = 0;

    private Bench() {
    }

    /** Tests one sentence of the document. */
    static void sentence(String words, Runnable test) {
        int before = answers;
        sentence = words;
        sentences++;
        test.run();
        due("answers asked for", answers > before ? 1 : 0, 1);
    }

    static void due(String call, long got, long want) {
        answers++;
        if (got == want) {
            return;
        }
        wrong++;
        if (wrong <= MOST_TOLD) {
            System.out.println("\"" + sentence + "\": " + call + " answered " + got + ", due is " + want);
        }
    }

    static void end() {
        System.out.println(sentences + " sentences, " + answers + " answers, " + wrong + " not as due");
        if (wrong != 0) {
            System.exit(1);
        }
    }

    static void write(ShufflingBook x, String s) {
        for (int at = 0; at < s.length(); at += 8) {
            int n = Math.min(8, s.length() - at);
            long v = 0;
            for (int k = 0; k < n; k++) {
                v = v << 8 | s.charAt(at + k);
            }
            x.write(n, v);
        }
    }

    static ShufflingBook written(String s) {
        ShufflingBook x = new ShufflingBook();
        write(x, s);
        return x;
    }

    static ShufflingBook laid(String s) {
        ShufflingBook x = written(s);
        due("lay() of " + s + " refused", x.lay() < 0 ? 1 : 0, 0);
        return x;
    }

    /** Items one behind the other: what, with the numbers from first to last in the place of #. */
    static String items(String what, int first, int last) {
        StringBuilder s = new StringBuilder();
        for (int k = first; k <= last; k++) {
            s.append(what.replace("#", "" + k));
        }
        return s.toString();
    }

    static int[] numbered(int n) {
        int[] order = new int[n];
        for (int p = 0; p < n; p++) {
            order[p] = p;
        }
        return order;
    }

    /** One reading by the words of the document; before: how many the reader has read. */
    static int reading(int[] order, int k, int a, int before) {
        int n = order.length;
        int[] was = order.clone();
        if (k == 3) {
            for (int p = 0; p < n; p++) {
                order[p] = was[(p + n / 2) % n];
            }
            return was[0];
        }
        boolean down = k == 0 || k == 2 && before % 2 == 0;
        int above = down && a < n - 1 ? a : n - 1;
        System.arraycopy(was, 1, order, 0, above);
        order[above] = was[0];
        return was[0];
    }

    static void duePack(String what, ShufflingBook x, int... leaves) {
        for (int p = 0; p < leaves.length; p++) {
            due(what + ": leaf(" + p + ", 0)", x.leaf(p, 0), leaves[p]);
        }
    }

    static int commonDivisor(int a, int b) {
        return b == 0 ? a : commonDivisor(b, a % b);
    }
}
