import java.util.ArrayList;
import java.util.Collections;
import java.util.List;
import java.util.Random;
import java.util.regex.Matcher;
import java.util.regex.Pattern;

/**
 * Long runs of calls (from fixed seeds) on the class and on a plain model that
 * does every reading one by one, just as the document says it.
 */
public final class ModelTest {
    private static final long FAR = 1000000000000L;
    private static final int RUNS = 700;
    private static int wrong = 0;

    /** The document word by word, without a thought for speed. */
    private static final class Model {
        private static final Pattern ITEM =
            Pattern.compile("(?:([nrt])([0-9]{1,2})|([ls])([0-9]{1,2}),([0-9]{1,2}));");
        String text = "";
        int n = 10, r = 9, kind = 0, reach = 2;
        List<int[]> swaps = new ArrayList<>();
        List<Integer> tale = new ArrayList<>();
        List<Integer> pack = first(), kept0, kept1;
        int readSoFar, done, keptCount;
        int[][] keptCounts = new int[2][2];
        List<long[]> seen = new ArrayList<>();
        List<List<Integer>> orders;

        List<Integer> identity() {
            List<Integer> o = new ArrayList<>();
            for (int i = 0; i < n; i++) {
                o.add(i);
            }
            return o;
        }

        List<Integer> first() {
            List<Integer> o = identity();
            for (int[] s : swaps) {
                Collections.swap(o, s[0], s[1]);
            }
            return o;
        }

        int reading(List<Integer> o, int k, int a, int before) {
            int top = o.remove(0);
            switch (k) {
                case 0: o.add(Math.min(a, n - 1), top); break;
                case 1: o.add(top); break;
                case 2: o.add(before % 2 == 0 ? Math.min(a, n - 1) : n - 1, top); break;
                default: o.add(0, top); Collections.rotate(o, -(n / 2));
            }
            return top;
        }

        List<Integer> reader(List<Integer> o) {
            List<Integer> had = new ArrayList<>();
            for (int i = 0; i < r; i++) {
                had.add(reading(o, kind, reach, i));
            }
            return had;
        }

        /** The orders that the readers find, till the first one is there again. */
        List<List<Integer>> orders() {
            if (orders == null) {
                orders = new ArrayList<>();
                List<Integer> o = first();
                do {
                    orders.add(new ArrayList<>(o));
                    reader(o);
                } while (!o.equals(orders.get(0)));
            }
            return orders;
        }

        List<Integer> had(long j) {
            return reader(new ArrayList<>(orders().get((int) (j % orders().size()))));
        }

        /** The places of the first order that reader j reads. */
        List<Integer> placesRead(long j) {
            List<Integer> p = new ArrayList<>();
            for (int leaf : had(j)) {
                p.add(first().indexOf(leaf));
            }
            return p;
        }

        int write(int k, long v) {
            if (k < 1 || k > 8) {
                return -1;
            }
            if (text.length() + k > 300) {
                return -3;
            }
            String hex = String.format("%016x", v);
            for (int i = 8 - k; i < 8; i++) {
                text += (char) Integer.parseInt(hex.substring(2 * i, 2 * i + 2), 16);
            }
            return text.length();
        }

        int wipe() {
            int was = text.length();
            text = "";
            return was;
        }

        int fault() {
            return scan(new Model[1]);
        }

        int scan(Model[] into) {
            Model m = new Model();
            Matcher item = ITEM.matcher(text);
            int at = 0;
            while (at < text.length()) {
                if (!item.region(at, text.length()).lookingAt()) {
                    return at;
                }
                char letter = text.charAt(at);
                int x = Integer.parseInt(item.group(1) != null ? item.group(2) : item.group(4));
                int y = item.group(1) != null ? 0 : Integer.parseInt(item.group(5));
                boolean ok = true;
                if (letter == 'n') {
                    ok = x >= 2 && x <= 40;
                    m.n = x;
                } else if (letter == 'r') {
                    ok = x >= 1 && x <= 40;
                    m.r = x;
                } else if (letter == 'l') {
                    ok = x <= 3 && y <= 39;
                    m.kind = x;
                    m.reach = y;
                } else if (letter == 's') {
                    ok = x <= 39 && y <= 39 && m.swaps.size() < 20;
                    m.swaps.add(new int[] {x, y});
                } else {
                    ok = x <= 39 && m.tale.size() < 20;
                    m.tale.add(x);
                }
                if (!ok) {
                    return at;
                }
                at = item.end();
            }
            into[0] = m;
            return -4;
        }

        int lay() {
            Model[] into = new Model[1];
            if (scan(into) != -4) {
                return -2;
            }
            Model m = into[0];
            for (int[] s : m.swaps) {
                if (s[0] >= m.n || s[1] >= m.n) {
                    return -2;
                }
            }
            for (int t : m.tale) {
                if (t >= m.n) {
                    return -2;
                }
            }
            n = m.n;
            r = m.r;
            kind = m.kind;
            reach = m.reach;
            swaps = m.swaps;
            tale = m.tale;
            pack = first();
            readSoFar = 0;
            done = 0;
            keptCount = 0;
            seen.clear();
            orders = null;
            return n;
        }

        boolean below(int x) {
            return x >= 0 && x < n;
        }

        boolean reader(long j) {
            return j >= 0 && j <= FAR;
        }

        int leaf(int p, int what) {
            if (!below(p) || what < 0 || what > 1) {
                return -1;
            }
            return what == 0 ? pack.get(p) : first().get(p);
        }

        int where(int v) {
            return below(v) ? pack.indexOf(v) : -1;
        }

        int read() {
            int leaf = reading(pack, kind, reach, readSoFar);
            if (++readSoFar == r) {
                readSoFar = 0;
                done++;
            }
            return leaf;
        }

        int finish() {
            int k = 0;
            do {
                read();
                k++;
            } while (readSoFar != 0);
            return k;
        }

        int change(int p, int q) {
            if (!below(p) || !below(q)) {
                return -1;
            }
            Collections.swap(pack, p, q);
            return pack.get(p);
        }

        int drop(int z) {
            if (z < 0 || z > 9999) {
                return -1;
            }
            for (int k = n - 1; k > 0; k--) {
                java.math.BigInteger x = java.math.BigInteger.valueOf(7919L * z + 6151L * k + 1);
                int q = x.multiply(x).mod(java.math.BigInteger.valueOf(65521)).intValue() % (k + 1);
                Collections.swap(pack, k, q);
            }
            readSoFar = 0;
            return pack.get(0);
        }

        int has(long j, int i) {
            return reader(j) && i >= 0 && i < r ? had(j).get(i) : -1;
        }

        long leaves(long j) {
            if (!reader(j)) {
                return -1;
            }
            long bits = 0;
            for (int leaf : had(j)) {
                bits |= 1L << leaf;
            }
            return bits;
        }

        int period() {
            return orders().size();
        }

        long ever(int what) {
            if (what < 0 || what > 1) {
                return -1;
            }
            long some = 0;
            long all = -1;
            for (int j = 0; j < period(); j++) {
                some |= leaves(j);
                all &= leaves(j);
            }
            return what == 0 ? ~some & (1L << n) - 1 : all;
        }

        int told() {
            return Math.min(r, tale.size());
        }

        int rightOf(List<Integer> had) {
            int k = 0;
            for (int i = 0; i < told(); i++) {
                k += had.get(i).equals(tale.get(i)) ? 1 : 0;
            }
            return k;
        }

        int right(long j) {
            return reader(j) ? rightOf(had(j)) : -1;
        }

        int order(long j, int p) {
            if (!reader(j) || !below(p)) {
                return -1;
            }
            List<Integer> places = placesRead(j);
            List<Integer> o = new ArrayList<>(Collections.nCopies(n, -1));
            for (int i = 0; i < told(); i++) {
                int at = places.get(i);
                int v = tale.get(i);
                if (o.get(at) != -1 && o.get(at) != v || o.indexOf(v) != -1 && o.indexOf(v) != at) {
                    return -4;
                }
                o.set(at, v);
            }
            for (int v = 0; v < n; v++) {
                if (!o.contains(v)) {
                    o.set(o.indexOf(-1), v);
                }
            }
            return o.get(p);
        }

        int shows(int k, int a) {
            if (k < 0 || k > 3 || !below(a)) {
                return -1;
            }
            List<Integer> o = first();
            List<Integer> missing = identity();
            for (int m = 1; m <= 2000; m++) {
                missing.remove((Integer) reading(o, k, a, m - 1));
                if (missing.isEmpty()) {
                    return m;
                }
            }
            return -4;
        }

        int quickest(int what) {
            if (what < 0 || what > 2) {
                return -1;
            }
            int[] best = null;
            for (int k = 0; k < 4; k++) {
                for (int a = 0; a < n; a++) {
                    int m = shows(k, a);
                    if (m != -4 && (best == null || m < best[2])) {
                        best = new int[] {k, a, m};
                    }
                }
            }
            return best == null ? -4 : best[what];
        }

        int seen(long j, int i, int v) {
            if (!reader(j) || i < 0 || i >= r || !below(v)) {
                return -1;
            }
            if (seen.size() == 12) {
                return -3;
            }
            seen.add(new long[] {j, i, v});
            return seen.size();
        }

        int forget() {
            int was = seen.size();
            seen.clear();
            return was;
        }

        /** All first orders that fit: as long as there are few places, each is tried. */
        void fitting(List<Integer> o, int[] told, List<List<Integer>> found) {
            if (found.size() > 1 && n > 6) {
                return;
            }
            if (o.size() == n) {
                found.add(new ArrayList<>(o));
                return;
            }
            for (int v = 0; v < n; v++) {
                if (!o.contains(v) && fitsHere(o.size(), v, told)) {
                    o.add(v);
                    fitting(o, told, found);
                    o.remove(o.size() - 1);
                }
            }
        }

        boolean fitsHere(int place, int v, int[] told) {
            for (int k = 0; k < told.length; k += 2) {
                if (told[k] == place != (told[k + 1] == v)) {
                    return false;
                }
            }
            return true;
        }

        List<List<Integer>> fitting() {
            int[] told = new int[2 * seen.size()];
            for (int k = 0; k < seen.size(); k++) {
                told[2 * k] = placesRead(seen.get(k)[0]).get((int) seen.get(k)[1]);
                told[2 * k + 1] = (int) seen.get(k)[2];
            }
            List<List<Integer>> found = new ArrayList<>();
            for (int k = 0; k < told.length; k += 2) {
                for (int m = 0; m < k; m += 2) {
                    if (told[k] == told[m] != (told[k + 1] == told[m + 1])) {
                        return found;
                    }
                }
            }
            fitting(new ArrayList<>(), told, found);
            return found;
        }

        int so() {
            return fitting().isEmpty() ? 0 : 1;
        }

        int sure(int p) {
            if (!below(p)) {
                return -1;
            }
            List<List<Integer>> found = fitting();
            if (found.isEmpty()) {
                return -4;
            }
            int leaf = found.get(0).get(p);
            if (n <= 6) {
                for (List<Integer> o : found) {
                    if (o.get(p) != leaf) {
                        return -4;
                    }
                }
                return leaf;
            }
            for (long[] s : seen) {
                if (placesRead(s[0]).get((int) s[1]) == p) {
                    return leaf;
                }
            }
            return found.size() == 1 ? leaf : -4;
        }

        int lacks(int v, int what) {
            if (!below(v) || what < 0 || what > 1) {
                return -1;
            }
            for (int j = 0; j < period(); j++) {
                int i = had(j).indexOf(v);
                if (i != -1) {
                    return what == 0 ? j : i;
                }
            }
            return -4;
        }

        int notice(int a, int b, int readers) {
            if (!below(a) || !below(b) || readers < 0 || readers > 1000) {
                return -1;
            }
            List<Integer> o = first();
            List<Integer> other = first();
            Collections.swap(other, first().indexOf(a), first().indexOf(b));
            int k = 0;
            for (int j = 0; j < readers; j++) {
                k += reader(o).equals(reader(other)) ? 0 : 1;
            }
            return k;
        }

        int pleased(int j, int what) {
            if (j < 1 || j > 100 || what < 0 || what > 1) {
                return -1;
            }
            int best = -1;
            int most = -1;
            for (int d = 0; d < n; d++) {
                List<Integer> o = first();
                o.add(d, o.remove(0));
                for (int i = 1; i < r; i++) {
                    reading(o, kind, reach, i);
                }
                for (int k = 1; k < j; k++) {
                    reader(o);
                }
                int right = rightOf(reader(o));
                if (right > most) {
                    best = d;
                    most = right;
                }
            }
            return what == 0 ? best : most;
        }

        int keep() {
            if (keptCount == 2) {
                return -3;
            }
            if (keptCount == 0) {
                kept0 = new ArrayList<>(pack);
            } else {
                kept1 = new ArrayList<>(pack);
            }
            keptCounts[keptCount] = new int[] {readSoFar, done};
            return ++keptCount;
        }

        int back() {
            if (keptCount == 0) {
                return -2;
            }
            keptCount--;
            pack = keptCount == 0 ? kept0 : kept1;
            readSoFar = keptCounts[keptCount][0];
            done = keptCounts[keptCount][1];
            return keptCount;
        }

        int count(int what) {
            int[] all = {n, r, tale.size(), readSoFar, done, seen.size(), keptCount, text.length()};
            return what < 0 || what > 7 ? -1 : all[what];
        }
    }

    /** One run: the same calls, drawn from a fixed seed, on both. */
    private static final class Run {
        final int seed;
        final Random random;
        final ShufflingBook book = new ShufflingBook();
        final Model model = new Model();
        int calls = 0;

        Run(int seed) {
            this.seed = seed;
            this.random = new Random(seed);
        }

        void due(String call, long got, long want) {
            calls++;
            if (got != want) {
                wrong++;
                System.out.println("seed " + seed + ", call " + calls + ": " + call + " answered " + got
                    + ", due is " + want + " with " + model.text);
            }
        }

        void writeAll(String s) {
            for (int at = 0; at < s.length();) {
                int k = Math.min(1 + random.nextInt(8), s.length() - at);
                long v = random.nextInt(4) == 0 ? random.nextLong() : 0;
                for (int i = 0; i < k; i++) {
                    v = v << 8 | s.charAt(at + i);
                }
                due("write(" + k + ", " + v + ")", book.write(k, v), model.write(k, v));
                at += k;
            }
        }

        String number(int x) {
            return x < 10 && random.nextInt(9) == 0 ? "0" + x : "" + x;
        }

        String aText() {
            StringBuilder s = new StringBuilder();
            int n = random.nextBoolean() ? 2 + random.nextInt(5) : 2 + random.nextInt(39);
            int top = random.nextInt(25) == 0 ? 41 : n;
            if (random.nextInt(8) == 0) {
                n = 10;
            } else {
                s.append('n').append(number(n)).append(';');
            }
            if (random.nextInt(6) != 0) {
                int r = 1 + random.nextInt(random.nextBoolean() ? 5 : 40);
                s.append('r').append(number(r)).append(';');
            }
            if (random.nextInt(6) != 0) {
                int a = random.nextBoolean() ? random.nextInt(n) : random.nextInt(40);
                s.append('l').append(random.nextInt(4)).append(',').append(number(a)).append(';');
            }
            int swaps = random.nextInt(random.nextInt(9) == 0 ? 23 : 8);
            for (int k = 0; k < swaps; k++) {
                s.append('s').append(number(random.nextInt(top))).append(',');
                s.append(number(random.nextInt(top))).append(';');
            }
            int tale = random.nextInt(random.nextInt(9) == 0 ? 23 : 8);
            for (int k = 0; k < tale; k++) {
                s.append('t').append(number(random.nextInt(top))).append(';');
            }
            return spoil(s);
        }

        String spoil(StringBuilder s) {
            String signs = "nrlst0123456789,;;, xN\377\0";
            if (random.nextInt(6) == 0 && s.length() > 0) {
                int at = random.nextInt(s.length());
                char sign = signs.charAt(random.nextInt(signs.length()));
                switch (random.nextInt(3)) {
                    case 0: s.setCharAt(at, sign); break;
                    case 1: s.insert(at, sign); break;
                    default: s.deleteCharAt(at);
                }
            }
            return s.toString();
        }

        /** Mostly below top, now and then a little beside, or far off. */
        int some(int top) {
            switch (random.nextInt(20)) {
                case 0: return top;
                case 1: return -1;
                case 2: return random.nextInt();
                default: return random.nextInt(Math.max(top, 1));
            }
        }

        long someReader() {
            switch (random.nextInt(12)) {
                case 0: return FAR;
                case 1: return random.nextInt(3) == 0 ? FAR + 1 : FAR - random.nextInt(50);
                case 2: return random.nextInt(3) == 0 ? -1 : (random.nextLong() >>> 1) % FAR;
                case 3: return random.nextInt(9) == 0 ? random.nextLong() : 1000 + random.nextInt(1000);
                default: return random.nextInt(30);
            }
        }

        void newText() {
            due("wipe()", book.wipe(), model.wipe());
            writeAll(aText());
            due("fault()", book.fault(), model.fault());
            due("lay()", book.lay(), model.lay());
        }

        void oneOfThePack() {
            int p = some(model.n);
            int q = some(model.n);
            int what = some(2);
            int z = some(10000);
            switch (random.nextInt(9)) {
                case 0: due("leaf(" + p + ", " + what + ")", book.leaf(p, what), model.leaf(p, what)); break;
                case 1: due("where(" + p + ")", book.where(p), model.where(p)); break;
                case 2: due("read()", book.read(), model.read()); break;
                case 3: due("finish()", book.finish(), model.finish()); break;
                case 4: due("change(" + p + ", " + q + ")", book.change(p, q), model.change(p, q)); break;
                case 5: due("drop(" + z + ")", book.drop(z), model.drop(z)); break;
                case 6: due("keep()", book.keep(), model.keep()); break;
                case 7: due("back()", book.back(), model.back()); break;
                default: due("count(" + p + ")", book.count(p), model.count(p));
            }
        }

        void oneOfReaders() {
            long j = someReader();
            int i = some(model.r);
            int what = some(2);
            switch (random.nextInt(5)) {
                case 0: due("has(" + j + ", " + i + ")", book.has(j, i), model.has(j, i)); break;
                case 1: due("leaves(" + j + ")", book.leaves(j), model.leaves(j)); break;
                case 2: due("period()", book.period(), model.period()); break;
                case 3: due("ever(" + what + ")", book.ever(what), model.ever(what)); break;
                default: due("right(" + j + ")", book.right(j), model.right(j));
            }
        }

        void oneOfOrders() {
            long j = someReader();
            int p = some(model.n);
            int k = some(4);
            switch (random.nextInt(4)) {
                case 0: due("order(" + j + ", " + p + ")", book.order(j, p), model.order(j, p)); break;
                case 1: due("shows(" + k + ", " + p + ")", book.shows(k, p), model.shows(k, p)); break;
                case 2:
                    if (model.n < 8) {
                        k = some(3);
                        due("quickest(" + k + ")", book.quickest(k), model.quickest(k));
                    }
                    break;
                default: oneSeen();
            }
        }

        /** Mostly a true sight, so that now and then some first order fits them all. */
        void oneSeen() {
            long j = someReader();
            int i = some(model.r);
            int v = some(model.n);
            if (random.nextInt(5) != 0 && model.has(j, i) != -1) {
                v = model.has(j, i);
            }
            int p = some(model.n);
            due("seen(" + j + ", " + i + ", " + v + ")", book.seen(j, i, v), model.seen(j, i, v));
            due("so()", book.so(), model.so());
            due("sure(" + p + ")", book.sure(p), model.sure(p));
            if (random.nextInt(8) == 0) {
                due("forget()", book.forget(), model.forget());
            }
        }

        void oneOfTheLast() {
            int a = some(model.n);
            int b = some(model.n);
            int what = some(2);
            int n = random.nextInt(6) == 0 ? some(1001) : some(30);
            int j = random.nextInt(6) == 0 ? some(101) : 1 + some(4);
            switch (random.nextInt(3)) {
                case 0: due("lacks(" + a + ", " + what + ")", book.lacks(a, what), model.lacks(a, what)); break;
                case 1: due("notice(" + a + ", " + b + ", " + n + ")", book.notice(a, b, n), model.notice(a, b, n)); break;
                default: due("pleased(" + j + ", " + what + ")", book.pleased(j, what), model.pleased(j, what));
            }
        }

        void go() {
            while (calls < 450) {
                switch (random.nextInt(9)) {
                    case 0: case 1: case 2: oneOfThePack(); break;
                    case 3: case 4: oneOfReaders(); break;
                    case 5: case 6: oneOfOrders(); break;
                    case 7: oneOfTheLast(); break;
                    default:
                        if (random.nextInt(6) == 0) {
                            newText();
                        }
                }
            }
        }
    }

    public static void main(String[] args) {
        for (int seed = 1; seed <= RUNS && wrong < 20; seed++) {
            new Run(seed).go();
        }
        System.out.println(wrong == 0 ? "the class answers as the model" : wrong + " answers are not the model's");
        if (wrong != 0) {
            System.exit(1);
        }
    }
}
