import java.util.ArrayList;
import java.util.List;

/** What an object of few LEAVES (10 at most, for 512 calls) answers to a long row of calls, always the same. */
final class Answers {
    private final List<String> calls = new ArrayList<>();
    private final List<Long> answers = new ArrayList<>();

    private Answers() {
    }

    /** First all that only asks, then all that changes things, too. */
    static Answers of(ShufflingBook x) {
        Answers all = new Answers();
        all.ask(x);
        all.use(x);
        return all;
    }

    static Answers used(ShufflingBook x) {
        Answers all = new Answers();
        all.use(x);
        return all;
    }

    void due(String when, Answers want) {
        Bench.due(when + " calls", answers.size(), want.answers.size());
        dueLast(when, want);
    }

    /** These answers are due to be the last of some others. */
    void dueLast(String when, Answers others) {
        int ahead = others.answers.size() - answers.size();
        for (int k = 0; k < answers.size() && ahead >= 0; k++) {
            Bench.due(when + " " + calls.get(k), answers.get(k), others.answers.get(ahead + k));
        }
        Bench.due(when + " fewer", ahead >= 0 ? 1 : 0, 1);
    }

    private void add(String call, long answer) {
        calls.add(call);
        answers.add(answer);
    }

    private void ask(ShufflingBook x) {
        for (int what = 0; what < 8; what++) {
            add("count " + what, x.count(what));
        }
        add("fault", x.fault());
        add("period", x.period());
        add("so", x.so());
        add("never", x.ever(0));
        add("always", x.ever(1));
        for (int what = 0; what < 3; what++) {
            add("quickest " + what, x.quickest(what));
        }
        for (int j = 0; j < 3; j++) {
            askReader(x, j);
        }
        int n = x.count(0);
        for (int p = 0; p < n; p++) {
            askPlace(x, p);
        }
    }

    private void askReader(ShufflingBook x, int j) {
        int r = x.count(1);
        for (int i = 0; i < r; i++) {
            add("has " + j + ", " + i, x.has(j, i));
        }
        add("leaves " + j, x.leaves(j));
        add("right " + j, x.right(j));
    }

    private void askPlace(ShufflingBook x, int p) {
        add("leaf, pack " + p, x.leaf(p, 0));
        add("leaf, first " + p, x.leaf(p, 1));
        add("where " + p, x.where(p));
        add("order " + p, x.order(1, p));
        add("sure " + p, x.sure(p));
        add("lacks " + p, x.lacks(p, 0));
        add("as his " + p, x.lacks(p, 1));
        add("notice " + p, x.notice(p, 0, 7));
        add("pleased " + (p + 1), x.pleased(p + 1, 0));
        add("right then " + (p + 1), x.pleased(p + 1, 1));
        for (int k = 0; k < 4; k++) {
            add("shows " + k + ", " + p, x.shows(k, p));
        }
    }

    private void askPack(ShufflingBook x) {
        add("count 3", x.count(3));
        add("count 4", x.count(4));
        int n = x.count(0);
        for (int p = 0; p < n; p++) {
            add("leaf, pack " + p, x.leaf(p, 0));
        }
    }

    /** What only shows by changing things: how the reading goes on, what is kept, seen, written. */
    private void use(ShufflingBook x) {
        for (int k = 0; k < 5; k++) {
            add("read", x.read());
        }
        add("finish", x.finish());
        askPack(x);
        for (int k = 0; k < 3; k++) {
            add("back", x.back());
            askPack(x);
        }
        for (int k = 0; k < 3; k++) {
            add("keep", x.keep());
        }
        add("forget", x.forget());
        for (int k = 0; k < 13; k++) {
            add("seen", x.seen(0, 0, 0));
        }
        add("write", x.write(3, 0x72373B));
        add("fault", x.fault());
        add("lay", x.lay());
        add("wipe", x.wipe());
        add("leaf, first", x.leaf(0, 1));
        add("has", x.has(1, 0));
    }
}
