/**
 * A book of loose leaves that shuffles as it is read. ../shared/DOC.md tells in
 * promises what it does; README.md tells how this class is laid out.
 */
public final class ShufflingBook {
    public static final int BAD = -1, NO = -2, FULL = -3, NONE = -4;

    private static final int MOST_BYTES = 300;
    private static final int MOST_AT_ONCE = 8;
    private static final int FEWEST_LEAVES = 2;
    private static final int MOST_LEAVES = 40;
    private static final int MOST_PER_READER = 40;
    private static final int HIGHEST_NUMBER = 39;
    private static final int MOST_SWAPS = 20;
    private static final int MOST_IN_TALE = 20;
    private static final int MOST_SEEN = 12;
    private static final int MOST_KEPT = 2;
    private static final int MOST_NOTICING = 1000;
    private static final int MOST_PLEASED = 100;
    private static final int HIGHEST_DROP = 9999;
    private static final int HIGHEST_COUNT = 7;
    private static final long LAST_READER = 1000000000000L;

    private static final int DOWN = 0;
    private static final int UNDER = 1;
    private static final int TURNS = 2;
    private static final int CUT = 3;

    private final Text text;
    /** What the text tells; it takes the place of laid when it is laid. */
    private Told draft;
    private Told laid;
    private final Order firstOrder;
    private final Order trial;
    private final Readers readers;
    private final Guess guess;
    private final Row seenPlace;
    private final Row seenLeaf;
    private int seenCount;
    private final Pack pack;
    private final Pack olderKept;
    private final Pack newerKept;
    private int keptCount;

    public ShufflingBook() {
        text = new Text();
        draft = new Told();
        laid = new Told();
        firstOrder = new Order();
        trial = new Order();
        readers = new Readers();
        guess = new Guess();
        seenPlace = new Row(MOST_SEEN);
        seenLeaf = new Row(MOST_SEEN);
        pack = new Pack();
        olderKept = new Pack();
        newerKept = new Pack();
        startAnew();
    }

    // ---- books

    public int write(int n, long v) {
        if (!within(n, 1, MOST_AT_ONCE)) {
            return BAD;
        }
        if (text.size() + n > MOST_BYTES) {
            return FULL;
        }
        text.append(n, v);
        return text.size();
    }

    public int wipe() {
        return text.clear();
    }

    public int fault() {
        return draft.scan(text);
    }

    public int lay() {
        if (draft.scan(text) != NONE || !draft.fitsItsLeaves()) {
            return NO;
        }
        Told old = laid;
        laid = draft;
        draft = old;
        startAnew();
        return laid.leafCount;
    }

    // ---- the pack

    public int leaf(int p, int what) {
        if (!isBelowCount(p) || !within(what, 0, 1)) {
            return BAD;
        }
        return what == 0 ? pack.order.leafAt(p) : firstOrder.leafAt(p);
    }

    public int where(int v) {
        return isBelowCount(v) ? pack.order.placeOf(v) : BAD;
    }

    public int read() {
        return pack.readOne(laid);
    }

    public int finish() {
        int still = laid.perReader - pack.readSoFar;
        for (int k = 0; k < still; k++) {
            pack.readOne(laid);
        }
        return still;
    }

    public int change(int p, int q) {
        if (!isBelowCount(p) || !isBelowCount(q)) {
            return BAD;
        }
        pack.order.swap(p, q);
        return pack.order.leafAt(p);
    }

    public int drop(int z) {
        if (!within(z, 0, HIGHEST_DROP)) {
            return BAD;
        }
        pack.fall(z);
        return pack.order.leafAt(0);
    }

    // ---- readers

    public int has(long j, int i) {
        if (!isReader(j) || !isTurn(i)) {
            return BAD;
        }
        return leafHad(j, i);
    }

    public long leaves(long j) {
        return isReader(j) ? leavesHad(j) : BAD;
    }

    public int period() {
        return readers.roundsTogether();
    }

    public long ever(int what) {
        if (!within(what, 0, 1)) {
            return BAD;
        }
        long bits = 0;
        for (int p = 0; p < laid.leafCount; p++) {
            boolean told = what == 0 ? readers.isNeverRead(p) : readers.isAlwaysRead(p);
            if (told) {
                bits |= bit(firstOrder.leafAt(p));
            }
        }
        return bits;
    }

    public int right(long j) {
        if (!isReader(j)) {
            return BAD;
        }
        int right = 0;
        for (int i = 0; i < laid.toldTurns(); i++) {
            if (leafHad(j, i) == laid.taleLeaf(i)) {
                right++;
            }
        }
        return right;
    }

    // ---- orders

    public int order(long j, int p) {
        if (!isReader(j) || !isBelowCount(p)) {
            return BAD;
        }
        guess.begin(laid.leafCount);
        for (int i = 0; i < laid.toldTurns(); i++) {
            guess.bind(readers.placeRead(j, i), laid.taleLeaf(i));
        }
        if (!guess.holds()) {
            return NONE;
        }
        guess.fillUp();
        return guess.leafAt(p);
    }

    public int shows(int k, int a) {
        if (!within(k, DOWN, CUT) || !isBelowCount(a)) {
            return BAD;
        }
        return readingsToShowAll(k, a);
    }

    /**
     * No law shows N leaves in fewer than N readings. DOWN with N less 1 above
     * takes just N, and DOWN with fewer above never comes to the lowest leaf:
     * so it is the first of the soonest, for every N.
     */
    public int quickest(int what) {
        if (!within(what, 0, 2)) {
            return BAD;
        }
        if (what == 0) {
            return DOWN;
        }
        return what == 1 ? laid.leafCount - 1 : laid.leafCount;
    }

    public int seen(long j, int i, int v) {
        if (!isReader(j) || !isTurn(i) || !isBelowCount(v)) {
            return BAD;
        }
        if (seenCount >= MOST_SEEN) {
            return FULL;
        }
        // Till the next lay(), which forgets all that was seen, the place stays the same.
        seenPlace.put(seenCount, readers.placeRead(j, i));
        seenLeaf.put(seenCount, v);
        seenCount++;
        return seenCount;
    }

    public int forget() {
        int was = seenCount;
        seenCount = 0;
        return was;
    }

    public int so() {
        guessFromSeen();
        return guess.holds() ? 1 : 0;
    }

    public int sure(int p) {
        if (!isBelowCount(p)) {
            return BAD;
        }
        guessFromSeen();
        if (!guess.holds()) {
            return NONE;
        }
        if (guess.isAllButOne()) {
            guess.fillUp();
        }
        return guess.leafAt(p);
    }

    // ---- what is missed, who is pleased

    public int lacks(int v, int what) {
        if (!isBelowCount(v) || !within(what, 0, 1)) {
            return BAD;
        }
        int place = firstOrder.placeOf(v);
        for (int j = 0; j < MOST_LEAVES; j++) {
            int turn = readers.turnAt(readers.placeFoundBy(j, place));
            if (turn != NONE) {
                return what == 0 ? j : turn;
            }
        }
        return NONE;
    }

    public int notice(int a, int b, int n) {
        if (!isBelowCount(a) || !isBelowCount(b) || !within(n, 0, MOST_NOTICING)) {
            return BAD;
        }
        if (a == b) {
            return 0;
        }
        int placeOfA = firstOrder.placeOf(a);
        int placeOfB = firstOrder.placeOf(b);
        int noticing = 0;
        for (int j = 0; j < n; j++) {
            if (isReadBy(j, placeOfA) || isReadBy(j, placeOfB)) {
                noticing++;
            }
        }
        return noticing;
    }

    public int pleased(int j, int what) {
        if (!within(j, 1, MOST_PLEASED) || !within(what, 0, 1)) {
            return BAD;
        }
        int best = 0;
        int most = NONE;
        for (int d = 0; d < laid.leafCount; d++) {
            int right = rightWhenLaidAt(d, j);
            if (right > most) {
                best = d;
                most = right;
            }
        }
        return what == 0 ? best : most;
    }

    public int keep() {
        if (keptCount >= MOST_KEPT) {
            return FULL;
        }
        keptPack(keptCount).copyFrom(pack);
        keptCount++;
        return keptCount;
    }

    public int back() {
        if (keptCount <= 0) {
            return NO;
        }
        keptCount--;
        pack.copyFrom(keptPack(keptCount));
        return keptCount;
    }

    public int count(int what) {
        if (!within(what, 0, HIGHEST_COUNT)) {
            return BAD;
        }
        switch (what) {
            case 0: return laid.leafCount;
            case 1: return laid.perReader;
            case 2: return laid.taleLength;
            case 3: return pack.readSoFar;
            case 4: return pack.readersDone;
            case 5: return seenCount;
            case 6: return keptCount;
            default: return text.size();
        }
    }

    // ---- what the calls share

    private void startAnew() {
        laid.orderFirst(firstOrder);
        readers.follow(laid);
        pack.startWith(firstOrder);
        seenCount = 0;
        keptCount = 0;
    }

    private Pack keptPack(int k) {
        return k == 0 ? olderKept : newerKept;
    }

    private boolean isBelowCount(int number) {
        return within(number, 0, laid.leafCount - 1);
    }

    private boolean isTurn(int i) {
        return within(i, 0, laid.perReader - 1);
    }

    private int leafHad(long j, int i) {
        return firstOrder.leafAt(readers.placeRead(j, i));
    }

    private long leavesHad(long j) {
        long bits = 0;
        for (int i = 0; i < laid.perReader; i++) {
            bits |= bit(leafHad(j, i));
        }
        return bits;
    }

    private boolean isReadBy(int j, int placeAtFirst) {
        return readers.turnAt(readers.placeFoundBy(j, placeAtFirst)) != NONE;
    }

    private void guessFromSeen() {
        guess.begin(laid.leafCount);
        for (int k = 0; k < seenCount; k++) {
            guess.bind(seenPlace.at(k), seenLeaf.at(k));
        }
    }

    /**
     * Two readings move the places alike each time, whatever the law. A leaf so
     * goes round in at most N such pairs: what 2 N readings (80 at most, far
     * below the 2000 allowed) don't show is never shown.
     */
    private int readingsToShowAll(int kind, int reach) {
        long missing = bit(laid.leafCount) - 1;
        trial.number(laid.leafCount);
        for (int k = 0; k < 2 * laid.leafCount; k++) {
            missing &= ~bit(trial.readTop(kind, reach, k));
            if (missing == 0) {
                return k + 1;
            }
        }
        return NONE;
    }

    /** RIGHT of reader j, if reader 0 has laid his first leaf so that d are above it. */
    private int rightWhenLaidAt(int d, int j) {
        int right = 0;
        for (int i = 0; i < laid.toldTurns(); i++) {
            int place = readers.placeAfterFirstReading(j, i);
            if (firstOrder.leafAt(placeBeforeLaying(place, d)) == laid.taleLeaf(i)) {
                right++;
            }
        }
        return right;
    }

    private static int placeBeforeLaying(int place, int d) {
        if (place == d) {
            return 0;
        }
        return place < d ? place + 1 : place;
    }

    private static boolean isReader(long j) {
        return j >= 0 && j <= LAST_READER;
    }

    private static boolean within(int number, int lowest, int highest) {
        return number >= lowest && number <= highest;
    }

    private static long bit(int place) {
        return 1L << place;
    }

    /** Numbers in a row: a cell that isn't there holds NONE, and takes nothing. */
    private static final class Row {
        private final int[] cells;

        Row(int length) {
            cells = new int[Math.max(length, 0)];
        }

        int at(int i) {
            return i >= 0 && i < cells.length ? cells[i] : NONE;
        }

        void put(int i, int number) {
            if (i >= 0 && i < cells.length) {
                cells[i] = number;
            }
        }

        void copyFrom(Row other) {
            for (int i = 0; i < cells.length; i++) {
                cells[i] = other.at(i);
            }
        }

        void fill(int number) {
            for (int i = 0; i < cells.length; i++) {
                cells[i] = number;
            }
        }
    }

    /** The bytes that were written. */
    private static final class Text {
        private final Row bytes = new Row(MOST_BYTES);
        private int length;

        int size() {
            return length;
        }

        int byteAt(int place) {
            return place < length ? bytes.at(place) : NONE;
        }

        void append(int n, long v) {
            for (int k = n - 1; k >= 0; k--) {
                bytes.put(length, (int) ((v >>> (8 * k)) & 255));
                length++;
            }
        }

        int clear() {
            int was = length;
            length = 0;
            return was;
        }

        /** How many figures stand from a place on, counted to two. */
        int figuresFrom(int place) {
            if (!isFigure(byteAt(place))) {
                return 0;
            }
            return isFigure(byteAt(place + 1)) ? 2 : 1;
        }

        int numberAt(int place, int figures) {
            int number = 0;
            for (int k = 0; k < figures; k++) {
                number = 10 * number + byteAt(place + k) - '0';
            }
            return number;
        }

        private static boolean isFigure(int sign) {
            return within(sign, '0', '9');
        }
    }

    /** What a text tells of the book. */
    private static final class Told {
        private int leafCount;
        private int perReader;
        private int kind;
        private int reach;
        private final Row swapFrom = new Row(MOST_SWAPS);
        private final Row swapTo = new Row(MOST_SWAPS);
        private int swapCount;
        private final Row tale = new Row(MOST_IN_TALE);
        private int taleLength;
        private final Row numbers = new Row(2);

        Told() {
            tellNothing();
        }

        private void tellNothing() {
            leafCount = 10;
            perReader = 9;
            kind = DOWN;
            reach = 2;
            swapCount = 0;
            taleLength = 0;
        }

        /** Takes a whole text in; the place of its first fault, or NONE. */
        int scan(Text text) {
            tellNothing();
            int start = 0;
            while (start < text.size()) {
                int next = scanItem(text, start);
                if (next <= start) {
                    return start;
                }
                start = next;
            }
            return NONE;
        }

        /** The place behind the item that begins at start, or NONE if it isn't one. */
        private int scanItem(Text text, int start) {
            int letter = text.byteAt(start);
            int wanted = numbersWanted(letter);
            int place = start + 1;
            for (int k = 0; k < wanted; k++) {
                int figures = text.figuresFrom(place);
                if (figures == 0) {
                    return NONE;
                }
                numbers.put(k, text.numberAt(place, figures));
                place += figures;
                if (text.byteAt(place) != (k + 1 < wanted ? ',' : ';')) {
                    return NONE;
                }
                place++;
            }
            return takeIn(letter, numbers.at(0), numbers.at(1)) ? place : NONE;
        }

        private static int numbersWanted(int letter) {
            switch (letter) {
                case 'n': case 'r': case 't': return 1;
                case 'l': case 's': return 2;
                default: return 0;
            }
        }

        private boolean takeIn(int letter, int first, int second) {
            switch (letter) {
                case 'n': return takeLeafCount(first);
                case 'r': return takePerReader(first);
                case 'l': return takeLaw(first, second);
                case 's': return takeSwap(first, second);
                case 't': return takeTaleLeaf(first);
                default: return false;
            }
        }

        private boolean takeLeafCount(int number) {
            leafCount = number;
            return within(number, FEWEST_LEAVES, MOST_LEAVES);
        }

        private boolean takePerReader(int number) {
            perReader = number;
            return within(number, 1, MOST_PER_READER);
        }

        private boolean takeLaw(int first, int second) {
            kind = first;
            reach = second;
            return within(first, DOWN, CUT) && within(second, 0, HIGHEST_NUMBER);
        }

        private boolean takeSwap(int first, int second) {
            if (swapCount >= MOST_SWAPS) {
                return false;
            }
            swapFrom.put(swapCount, first);
            swapTo.put(swapCount, second);
            swapCount++;
            return within(first, 0, HIGHEST_NUMBER) && within(second, 0, HIGHEST_NUMBER);
        }

        private boolean takeTaleLeaf(int number) {
            if (taleLength >= MOST_IN_TALE) {
                return false;
            }
            tale.put(taleLength, number);
            taleLength++;
            return within(number, 0, HIGHEST_NUMBER);
        }

        boolean fitsItsLeaves() {
            for (int k = 0; k < swapCount; k++) {
                if (swapFrom.at(k) >= leafCount || swapTo.at(k) >= leafCount) {
                    return false;
                }
            }
            for (int k = 0; k < taleLength; k++) {
                if (tale.at(k) >= leafCount) {
                    return false;
                }
            }
            return true;
        }

        void orderFirst(Order order) {
            order.number(leafCount);
            for (int k = 0; k < swapCount; k++) {
                order.swap(swapFrom.at(k), swapTo.at(k));
            }
        }

        /** Of how many turns of a reader the tale tells a leaf. */
        int toldTurns() {
            return Math.min(perReader, taleLength);
        }

        int taleLeaf(int i) {
            return tale.at(i);
        }
    }

    /** Leaves in their places, and the reading that moves them. */
    private static final class Order {
        private final Row leaves = new Row(MOST_LEAVES);
        private final Row lifted = new Row(MOST_LEAVES);
        private int size;

        /** Leaf i at place i. */
        void number(int leafCount) {
            size = leafCount;
            for (int p = 0; p < leafCount; p++) {
                leaves.put(p, p);
            }
        }

        int leafAt(int place) {
            return leaves.at(place);
        }

        int placeOf(int leaf) {
            for (int p = 0; p < size; p++) {
                if (leaves.at(p) == leaf) {
                    return p;
                }
            }
            return NONE;
        }

        void swap(int p, int q) {
            int held = leaves.at(p);
            leaves.put(p, leaves.at(q));
            leaves.put(q, held);
        }

        void copyFrom(Order other) {
            size = other.size;
            leaves.copyFrom(other.leaves);
        }

        /** Reads the top leaf by a law, as one of whom the reader has read so many before. */
        int readTop(int kind, int reach, int readBefore) {
            int leaf = leaves.at(0);
            if (kind == CUT) {
                cut();
            } else if (kind == UNDER || kind == TURNS && readBefore % 2 != 0) {
                layTop(size - 1);
            } else {
                layTop(Math.min(reach, size - 1));
            }
            return leaf;
        }

        private void layTop(int above) {
            int leaf = leaves.at(0);
            for (int p = 0; p < above; p++) {
                leaves.put(p, leaves.at(p + 1));
            }
            leaves.put(above, leaf);
        }

        private void cut() {
            int upper = size / 2;
            lifted.copyFrom(leaves);
            for (int p = 0; p < size; p++) {
                int from = p + upper;
                leaves.put(p, lifted.at(from < size ? from : from - size));
            }
        }
    }

    /** The pack in the hands of the reader who has it now. */
    private static final class Pack {
        private final Order order = new Order();
        private int readSoFar;
        private int readersDone;

        void startWith(Order first) {
            order.copyFrom(first);
            readSoFar = 0;
            readersDone = 0;
        }

        void copyFrom(Pack other) {
            order.copyFrom(other.order);
            readSoFar = other.readSoFar;
            readersDone = other.readersDone;
        }

        int readOne(Told told) {
            int leaf = order.readTop(told.kind, told.reach, readSoFar);
            readSoFar++;
            if (readSoFar >= told.perReader) {
                readSoFar = 0;
                readersDone++;
            }
            return leaf;
        }

        void fall(int z) {
            for (int k = order.size - 1; k >= 1; k--) {
                long x = 7919L * z + 6151L * k + 1;
                order.swap(k, (int) (x * x % 65521 % (k + 1)));
            }
            readSoFar = 0;
        }
    }

    /**
     * What each reader does to the places. All do the same: the leaf that one
     * finds at place ring[x + 1] the next one finds at place ring[x], and so
     * round each ring. So any reader, however far off, is a step round a ring.
     */
    private static final class Readers {
        private final Order trial = new Order();
        private int size;
        /** The place where a reader finds the leaf that he reads as his i-th. */
        private final Row placeAtTurn = new Row(MOST_PER_READER);
        private final Row turnAtPlace = new Row(MOST_LEAVES);
        /** From where, when the first reading is laid back, the leaf at a place comes. */
        private final Row fromAfterFirst = new Row(MOST_LEAVES);
        private final Row ring = new Row(MOST_LEAVES);
        private final Row ringStart = new Row(MOST_LEAVES);
        private final Row ringLength = new Row(MOST_LEAVES);
        private final Row indexInRing = new Row(MOST_LEAVES);

        void follow(Told told) {
            size = told.leafCount;
            readOneReader(told);
            layRings();
            readWithoutFirst(told);
        }

        private void readOneReader(Told told) {
            trial.number(size);
            turnAtPlace.fill(NONE);
            for (int i = 0; i < told.perReader; i++) {
                int place = trial.readTop(told.kind, told.reach, i);
                placeAtTurn.put(i, place);
                if (turnAtPlace.at(place) == NONE) {
                    turnAtPlace.put(place, i);
                }
            }
        }

        private void readWithoutFirst(Told told) {
            trial.number(size);
            for (int i = 1; i < told.perReader; i++) {
                trial.readTop(told.kind, told.reach, i);
            }
            for (int p = 0; p < size; p++) {
                fromAfterFirst.put(p, trial.leafAt(p));
            }
        }

        /** The rings of the order that one reader has made of numbered leaves. */
        private void layRings() {
            ringLength.fill(0);
            int laid = 0;
            for (int p = 0; p < size; p++) {
                if (ringLength.at(p) == 0) {
                    laid += layRing(p, laid);
                }
            }
        }

        private int layRing(int first, int start) {
            int length = 0;
            int place = first;
            do {
                ring.put(start + length, place);
                ringStart.put(place, start);
                indexInRing.put(place, length);
                length++;
                place = trial.leafAt(place);
            } while (place != first && length < size);
            for (int k = 0; k < length; k++) {
                ringLength.put(ring.at(start + k), length);
            }
            return length;
        }

        private int placeInRing(int place, long steps) {
            int length = ringLength.at(place);
            if (length <= 0) {
                return place;
            }
            int index = (int) Math.floorMod(indexInRing.at(place) + steps, (long) length);
            return ring.at(ringStart.at(place) + index);
        }

        /** The place in the first order of the leaf that reader j reads as his i-th. */
        int placeRead(long j, int i) {
            return placeInRing(placeAtTurn.at(i), j);
        }

        /** Where reader j finds the leaf that lies at a place of the first order. */
        int placeFoundBy(long j, int place) {
            return placeInRing(place, -j);
        }

        /**
         * The place of the leaf that reader j (1 or more) reads as his i-th, in
         * the order that the first reading of all leaves.
         */
        int placeAfterFirstReading(long j, int i) {
            return fromAfterFirst.at(placeInRing(placeAtTurn.at(i), j - 1));
        }

        /** As his how-manieth a reader first reads the leaf that he finds at a place; NONE. */
        int turnAt(int place) {
            return turnAtPlace.at(place);
        }

        boolean isNeverRead(int place) {
            return readInRing(place) == 0;
        }

        boolean isAlwaysRead(int place) {
            return readInRing(place) == ringLength.at(place);
        }

        private int readInRing(int place) {
            int read = 0;
            for (int k = 0; k < ringLength.at(place); k++) {
                if (turnAt(ring.at(ringStart.at(place) + k)) != NONE) {
                    read++;
                }
            }
            return read;
        }

        /** After how many readers all rings are round together. */
        int roundsTogether() {
            int rounds = 1;
            for (int p = 0; p < size; p++) {
                rounds = commonMultiple(rounds, ringLength.at(p));
            }
            return rounds;
        }

        private static int commonMultiple(int a, int length) {
            for (int k = 1; k < length; k++) {
                if (a * k % length == 0) {
                    return a * k;
                }
            }
            return a * length;
        }
    }

    /** A first order of which only some places are known. */
    private static final class Guess {
        private final Row leaves = new Row(MOST_LEAVES);
        private final Row places = new Row(MOST_LEAVES);
        private int size;
        private int bound;
        private boolean consistent;

        void begin(int leafCount) {
            size = leafCount;
            bound = 0;
            consistent = true;
            leaves.fill(NONE);
            places.fill(NONE);
        }

        void bind(int place, int leaf) {
            int leafThere = leaves.at(place);
            int placeThen = places.at(leaf);
            if (leafThere == NONE && placeThen == NONE) {
                leaves.put(place, leaf);
                places.put(leaf, place);
                bound++;
            } else if (leafThere != leaf) {
                consistent = false;
            }
        }

        /** No place has two leaves, no leaf two places. */
        boolean holds() {
            return consistent;
        }

        boolean isAllButOne() {
            return bound == size - 1;
        }

        /** The leaf that is known to lie at a place; NONE. */
        int leafAt(int place) {
            return leaves.at(place);
        }

        /** The leaves that are left, the lower ahead, to the places that are left. */
        void fillUp() {
            int place = 0;
            for (int leaf = 0; leaf < size; leaf++) {
                if (places.at(leaf) == NONE) {
                    while (place < size && leaves.at(place) != NONE) {
                        place++;
                    }
                    bind(place, leaf);
                }
            }
        }
    }
}
