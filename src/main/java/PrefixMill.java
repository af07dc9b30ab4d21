import java.util.Arrays;

/**
 * Codes bytes by prefixes: lengths made from counts by a rule, codes by lengths, their description
 * in bytes, direct or by states, and rows of bytes as one stream of bits or as four, both ways.
 *
 * <p>Every row and table is made with the object and used again, so that no later call makes one.
 */
public final class PrefixMill {
    private static final int ROOM = 6000;
    private static final int SYMBOLS = 256;
    private static final int MOST_COUNT = 65535;
    private static final int MOST_LENGTH = 11;
    private static final int WEIGHTS = MOST_LENGTH + 1;
    private static final int LEAST_ORDER = 5;
    private static final int MOST_ORDER = 6;
    private static final int MOST_WEIGHTS_READ = SYMBOLS - 1;
    /** Below it the first byte of a description tells bytes, from it on weights. */
    private static final int DIRECT_MARK = 128;

    private final Row in = new Row(ROOM);
    private final Row out = new Row(ROOM);
    private final int[] counts = new int[SYMBOLS];
    private final Codes codes = new Codes();
    private final Tree tree = new Tree();
    private final Writer writer = new Writer();
    private final Reader reader = new Reader();
    private final Streams streams = new Streams();
    private int place;

    public PrefixMill() {
        place = 0;
    }

    public boolean write(long eight, int n) {
        if (n < 1 || n > 8 || n > ROOM - in.used) {
            return false;
        }
        for (int i = 0; i < n; i++) {
            in.add((int) (eight >>> (56 - 8 * i)) & 255);
        }
        return true;
    }

    public boolean again(int m, int n) {
        // The product is taken as a long, since it may be more than an int holds.
        if (m < 1 || m > in.used || n < 0 || (long) m * n > ROOM - in.used) {
            return false;
        }
        int more = m * n;
        for (int i = 0; i < more; i++) {
            in.add(in.get(in.used - m));
        }
        return true;
    }

    public void turn() {
        in.copy(out);
        place = 0;
    }

    public void clear() {
        in.empty();
        place = 0;
        Arrays.fill(counts, 0);
    }

    public boolean place(int p) {
        if (p < 0 || p > in.used) {
            return false;
        }
        place = p;
        return true;
    }

    public int at() {
        return place;
    }

    public boolean count(int symbol, int c) {
        if (!isSymbol(symbol) || c < 0 || c > MOST_COUNT) {
            return false;
        }
        counts[symbol] = c;
        return true;
    }

    public int countAll() {
        Arrays.fill(counts, 0);
        for (int i = place; i < in.used; i++) {
            counts[in.get(i)]++;
        }
        return in.used - place;
    }

    public int lengths(int most) {
        if (most < 1 || most > MOST_LENGTH) {
            return -1;
        }
        int known = tree.plant(counts);
        if (known < 2 || known > 1 << most) {
            return -2;
        }
        tree.grow(most);
        return codes.become(tree.lengths);
    }

    public int just() {
        return areLengths(counts) ? codes.become(counts) : -1;
    }

    public int describe() {
        return codes.areThere() ? writer.describeCodes(codes, out) : -1;
    }

    public int read() {
        int fault = reader.readCodes(in, place);
        if (fault != 0) {
            return -fault;
        }
        place = reader.end;
        return codes.become(reader.lengths);
    }

    public int encode(boolean four) {
        if (!codes.areThere()) {
            return -1;
        }
        if (Streams.bitsOf(codes, in, place, in.used) < 0) {
            return -2;
        }
        return four ? Streams.encodeFour(codes, in, place, out) : Streams.encodeOne(codes, in, place, out);
    }

    public int decode(int n, boolean four) {
        if (!codes.areThere() || n < 0 || n > ROOM || four && !Streams.areFour(n)) {
            return -1;
        }
        int fault = four ? streams.decodeFour(codes, in, place, n) : streams.decodeOne(codes, in, place, n);
        if (fault != 0) {
            return fault;
        }
        out.copy(streams.symbols);
        return n;
    }

    public int about(int what) {
        if (!codes.areThere()) {
            return -1;
        }
        switch (what) {
            case 0:
                return codes.greatest;
            case 1:
                return codes.known;
            case 2:
                return Streams.bitsOf(codes, in, place, in.used);
            default:
                return -1;
        }
    }

    public int code(int symbol, int what) {
        if (!codes.areThere() || !isSymbol(symbol) || codes.lengths[symbol] == 0) {
            return -1;
        }
        switch (what) {
            case 0:
                return codes.lengths[symbol];
            case 1:
                return codes.values[symbol];
            default:
                return -1;
        }
    }

    public int size() {
        return out.used;
    }

    public int byteAt(int k) {
        return out.get(k);
    }

    private static boolean isSymbol(int symbol) {
        return symbol >= 0 && symbol < SYMBOLS;
    }

    /** The greatest k with 2^k not above x; 0 when x is below 1. */
    private static int log2(int x) {
        int k = 0;
        while (k < 30 && x >> (k + 1) > 0) {
            k++;
        }
        return k;
    }

    /** Whether these 256 numbers, none below 0, can be the LENGTHS of codes. */
    private static boolean areLengths(int[] numbers) {
        int greatest = greatestOf(numbers);
        if (greatest > MOST_LENGTH) {
            return false;
        }
        int cells = 0;
        for (int symbol = 0; symbol < SYMBOLS; symbol++) {
            if (numbers[symbol] > 0) {
                cells += 1 << (greatest - numbers[symbol]);
            }
        }
        return cells == 1 << greatest;
    }

    private static int greatestOf(int[] numbers) {
        int greatest = 0;
        for (int symbol = 0; symbol < SYMBOLS; symbol++) {
            greatest = Math.max(greatest, numbers[symbol]);
        }
        return greatest;
    }

    /**
     * A row of bytes. Eight are packed in a long, the first the lowest, since the room that all
     * objects of a run share is counted in elements.
     */
    private static final class Row {
        private final long[] words;
        private final int room;
        private int used;
        /** Bits that are appended, but are no whole byte yet. */
        private int held;
        private int many;

        Row(int room) {
            this.room = room;
            this.words = new long[room / 8 + 1];
        }

        void empty() {
            used = 0;
        }

        /** Appends a byte. Callers see to it that there is room; without room nothing changes. */
        void add(int value) {
            if (used < room) {
                int shift = 8 * (used & 7);
                int word = used >> 3;
                words[word] = words[word] & ~(255L << shift) | (value & 255L) << shift;
                used++;
            }
        }

        /** Byte k; -1 when there is none. */
        int get(int k) {
            if (k < 0 || k >= used) {
                return -1;
            }
            return (int) (words[k >> 3] >>> 8 * (k & 7)) & 255;
        }

        /** The number of n bits, at most 16, from bit p on; bits that are not there are 0. */
        int bits(int p, int n) {
            int three = 0;
            for (int i = 2; i >= 0; i--) {
                three = three << 8 | Math.max(get((p >> 3) + i), 0);
            }
            return three >> (p & 7) & (1 << n) - 1;
        }

        /** Becomes another row of the same room. */
        void copy(Row other) {
            int most = Math.min(words.length, other.words.length);
            System.arraycopy(other.words, 0, words, 0, most);
            used = Math.min(other.used, room);
        }

        /** Appends a number of n bits, at most 16. */
        void put(int number, int n) {
            held |= number << many;
            many += n;
            while (many >= 8) {
                add(held & 255);
                held >>= 8;
                many -= 8;
            }
        }

        /** Appends zeros up to the end of a byte. */
        void pad() {
            if (many > 0) {
                put(0, 8 - many);
            }
        }

        /** Appends the END, and zeros up to the end of a byte. */
        void finish() {
            put(1, 1);
            pad();
        }
    }

    /** Where reading is that goes from the END of a part of a row down. */
    private static final class Tail {
        private int first;
        private int left;

        /** Begins with the bytes from .. to - 1; false when they have no END. */
        boolean open(Row row, int from, int to) {
            int last = from < to ? row.get(to - 1) : 0;
            if (last <= 0) {
                return false;
            }
            first = 8 * from;
            left = 8 * (to - 1 - from) + log2(last);
            return true;
        }

        /** The n highest bits that are left; those below the first one are 0. */
        int look(Row row, int n) {
            if (n <= left) {
                return row.bits(first + left - n, n);
            }
            return row.bits(first, left) << (n - left);
        }

        /** False when there are fewer bits. */
        boolean drop(int n) {
            if (n > left) {
                return false;
            }
            left -= n;
            return true;
        }

        /** The n highest bits that are left, which are there. */
        int take(Row row, int n) {
            int number = look(row, n);
            drop(n);
            return number;
        }
    }

    /** CODES; there are none while the greatest length is 0. */
    private static final class Codes {
        private final int[] lengths = new int[SYMBOLS];
        private final int[] values = new int[SYMBOLS];
        private final int[] cells = new int[1 << MOST_LENGTH];
        private int greatest;
        private int known;
        private int highest;

        boolean areThere() {
            return greatest > 0;
        }

        /** Takes what areLengths allows, and answers T. */
        int become(int[] newLengths) {
            greatest = greatestOf(newLengths);
            known = 0;
            for (int symbol = 0; symbol < SYMBOLS; symbol++) {
                lengths[symbol] = newLengths[symbol];
                if (lengths[symbol] > 0) {
                    known++;
                    highest = symbol;
                }
            }
            fillCells();
            return greatest;
        }

        private void fillCells() {
            int cell = 0;
            for (int length = greatest; length > 0; length--) {
                for (int symbol = 0; symbol < SYMBOLS; symbol++) {
                    if (lengths[symbol] == length) {
                        values[symbol] = cell >> (greatest - length);
                        cell = giveCells(symbol, cell, 1 << (greatest - length));
                    }
                }
            }
        }

        private int giveCells(int symbol, int from, int many) {
            int to = Math.min(from + many, cells.length);
            for (int cell = from; cell < to; cell++) {
                cells[cell] = symbol;
            }
            return to;
        }

        int weightOf(int symbol) {
            return lengths[symbol] == 0 ? 0 : greatest + 1 - lengths[symbol];
        }
    }

    /** LENGTHS BY COUNTS. */
    private static final class Tree {
        private final int[] lengths = new int[SYMBOLS];
        private final int[] halves = new int[SYMBOLS];
        private final int[] leaves = new int[SYMBOLS];
        private final int[] sorted = new int[SYMBOLS];
        private final int[] starts = new int[SYMBOLS + 1];
        private final int[] sums = new int[2 * SYMBOLS];
        private final int[] above = new int[2 * SYMBOLS];
        private final int[] depths = new int[2 * SYMBOLS];
        private int known;
        private int nextLeaf;
        private int nextSum;

        /** Takes the counts, and answers how many are above 0. */
        int plant(int[] counts) {
            known = 0;
            for (int symbol = 0; symbol < SYMBOLS; symbol++) {
                halves[symbol] = counts[symbol];
                if (counts[symbol] > 0) {
                    known++;
                }
            }
            return known;
        }

        /** Makes the lengths of what was planted: two symbols at least, at most 2^most. */
        void grow(int most) {
            // Sixteen halvings make every count 1, and then no length is above what it must be.
            for (int round = 0; round <= 16; round++) {
                sortLeaves();
                join();
                if (measure() <= most) {
                    return;
                }
                halve();
            }
        }

        private void halve() {
            for (int symbol = 0; symbol < SYMBOLS; symbol++) {
                halves[symbol] = (halves[symbol] + 1) / 2;
            }
        }

        /** By counts; both passes keep the order of equals, so that these stay in rising order. */
        private void sortLeaves() {
            int n = 0;
            for (int symbol = 0; symbol < SYMBOLS; symbol++) {
                if (halves[symbol] > 0) {
                    leaves[n] = symbol;
                    n++;
                }
            }
            sortByByte(leaves, sorted, 0);
            sortByByte(sorted, leaves, 8);
        }

        private void sortByByte(int[] from, int[] to, int shift) {
            Arrays.fill(starts, 0);
            for (int i = 0; i < known; i++) {
                starts[(halves[from[i]] >> shift & 255) + 1]++;
            }
            for (int i = 0; i < SYMBOLS; i++) {
                starts[i + 1] += starts[i];
            }
            for (int i = 0; i < known; i++) {
                int key = halves[from[i]] >> shift & 255;
                to[starts[key]] = from[i];
                starts[key]++;
            }
        }

        /**
         * Joins knots until one is left. Sums come in rising order, so the least one is always the
         * oldest that is there: two queues do for the whole order.
         */
        private void join() {
            for (int i = 0; i < known; i++) {
                sums[i] = halves[leaves[i]];
            }
            nextLeaf = 0;
            nextSum = known;
            for (int sum = known; sum < 2 * known - 1; sum++) {
                int one = least(sum);
                int other = least(sum);
                sums[sum] = sums[one] + sums[other];
                above[one] = sum;
                above[other] = sum;
            }
        }

        /** Takes away the least knot below end; of equal ones a leaf, which is before any sum. */
        private int least(int end) {
            if (nextLeaf < known && (nextSum >= end || sums[nextLeaf] <= sums[nextSum])) {
                nextLeaf++;
                return nextLeaf - 1;
            }
            nextSum++;
            return nextSum - 1;
        }

        /** Sets the lengths, and answers the greatest. */
        private int measure() {
            int root = 2 * known - 2;
            depths[root] = 0;
            for (int knot = root - 1; knot >= 0; knot--) {
                depths[knot] = depths[above[knot]] + 1;
            }
            Arrays.fill(lengths, 0);
            for (int i = 0; i < known; i++) {
                lengths[leaves[i]] = depths[i];
            }
            return greatestOf(lengths);
        }
    }

    /** A SHARE, with its PLACES. */
    private static final class Share {
        private final int[] points = new int[WEIGHTS];
        private final int[] cuts = new int[WEIGHTS];
        private final int[] queue = new int[WEIGHTS];
        /** By place: whose it is, how many bits it takes, and its BASE. */
        private final int[] owners = new int[1 << MOST_ORDER];
        private final int[] takes = new int[1 << MOST_ORDER];
        private final int[] bases = new int[1 << MOST_ORDER];
        /** The places of all weights, those of v in rising order from starts[v] on. */
        private final int[] ranked = new int[1 << MOST_ORDER];
        private final int[] starts = new int[WEIGHTS];
        private final int[] numbers = new int[WEIGHTS];
        private final int[] walk = new int[1 << MOST_ORDER];
        private int order;
        private int next;

        private int massOf(int v) {
            return points[v] < 0 ? 1 : points[v];
        }

        private int lacking() {
            int lack = 1 << order;
            for (int v = 0; v < WEIGHTS; v++) {
                lack -= massOf(v);
            }
            return lack;
        }

        /** Makes the share BY COUNTS, which are total together, above 0. */
        void byCounts(int newOrder, int[] counts, int total) {
            order = newOrder;
            for (int v = 0; v < WEIGHTS; v++) {
                int scaled = counts[v] << order;
                points[v] = scaled > 0 && scaled < total ? -1 : scaled / Math.max(total, 1);
                cuts[v] = scaled % Math.max(total, 1);
            }
            int lack = lacking();
            if (lack > 0) {
                give(lack);
            } else {
                takeAway(-lack);
            }
            layOut();
        }

        private void give(int lack) {
            int n = queueByCuts();
            for (int i = 0; i < lack && n > 0; i++) {
                points[queue[i % n]]++;
            }
        }

        /** Puts those of 1 or more points in the order of what was cut off, and answers how many. */
        private int queueByCuts() {
            int n = 0;
            for (int v = 0; v < WEIGHTS; v++) {
                if (points[v] > 0) {
                    int i = n;
                    while (i > 0 && cuts[queue[i - 1]] < cuts[v]) {
                        queue[i] = queue[i - 1];
                        i--;
                    }
                    queue[i] = v;
                    n++;
                }
            }
            return n;
        }

        private void takeAway(int many) {
            for (int i = 0; i < many; i++) {
                int most = 0;
                for (int v = 1; v < WEIGHTS; v++) {
                    if (points[v] > points[most]) {
                        most = v;
                    }
                }
                points[most]--;
            }
        }

        /** Gives out the places, when nothing lacks. */
        private void layOut() {
            int free = giveHighest();
            giveByWalk(free);
            rank();
        }

        /** Gives those of -1 points their places, and answers the lowest of these. */
        private int giveHighest() {
            int lowest = 1 << order;
            for (int v = 0; v < WEIGHTS; v++) {
                if (points[v] < 0) {
                    lowest--;
                    owners[lowest] = v;
                }
            }
            return lowest;
        }

        private void giveByWalk(int free) {
            int places = 1 << order;
            // The step is odd, so that as many steps as there are places come to each place once.
            int step = (places >> 1) + (places >> 3) + 3;
            int n = 0;
            for (int i = 0; i < places; i++) {
                int p = i * step & places - 1;
                if (p < free) {
                    walk[n] = p;
                    n++;
                }
            }
            int gone = 0;
            for (int v = 0; v < WEIGHTS; v++) {
                for (int i = 0; i < points[v] && gone < n; i++) {
                    owners[walk[gone]] = v;
                    gone++;
                }
            }
        }

        private void rank() {
            int start = 0;
            for (int v = 0; v < WEIGHTS; v++) {
                starts[v] = start;
                numbers[v] = massOf(v);
                start += massOf(v);
            }
            int places = 1 << order;
            for (int p = 0; p < places; p++) {
                int v = owners[p];
                int x = numbers[v];
                numbers[v]++;
                takes[p] = order - log2(x);
                bases[p] = (x << takes[p]) - places;
                ranked[starts[v] + x - massOf(v)] = p;
            }
        }

        /** It takes bits whenever v has not all the mass: its number is then below 2^order. */
        int lowestPlace(int v) {
            return ranked[starts[v]];
        }

        /** The place of v, which has points, from which the reader comes to this state. */
        int placeBefore(int state, int v) {
            int x = state + (1 << order);
            // BASE + 2^order is the number shifted by its bits: shifting back finds the number.
            for (int b = 0; b < order && x >= 2 * massOf(v); b++) {
                x >>= 1;
            }
            return ranked[starts[v] + x - massOf(v)];
        }

        void put(Row row) {
            row.put(order - LEAST_ORDER, 4);
            int lack = 1 << order;
            int v = 0;
            while (v < WEIGHTS && lack > 0) {
                putPoints(row, points[v] + 1, lack);
                lack -= massOf(v);
                v = points[v] == 0 ? putNone(row, v + 1) : v + 1;
            }
            row.pad();
        }

        private static void putPoints(Row row, int u, int lack) {
            int k = log2(lack + 1);
            int t = 1 << k;
            int m = 2 * t - 2 - lack;
            if (u < m) {
                row.put(u, k);
            } else {
                row.put(u < t ? u : u + m, k + 1);
            }
        }

        /** Writes how many from a weight on have 0 points, and answers the next that has not. */
        private int putNone(Row row, int from) {
            int v = from;
            while (v < WEIGHTS && points[v] == 0) {
                v++;
            }
            for (int i = from; i + 3 <= v; i += 3) {
                row.put(3, 2);
            }
            row.put((v - from) % 3, 2);
            return v;
        }

        /** Reads a share in the bytes from .. to - 1; answers the byte behind it, -1 if there is none. */
        int take(Row row, int from, int to) {
            Arrays.fill(points, 0);
            next = 8 * from;
            order = LEAST_ORDER + takeBits(row, 4);
            if (order > MOST_ORDER) {
                return -1;
            }
            int lack = 1 << order;
            int v = 0;
            while (v < WEIGHTS && lack > 0) {
                points[v] = takePoints(row, lack);
                lack -= massOf(v);
                v = points[v] == 0 ? takeNone(row, v + 1) : v + 1;
            }
            if (lack > 0 || next > 8 * to) {
                return -1;
            }
            layOut();
            return (next + 7) / 8;
        }

        private int takeBits(Row row, int n) {
            int number = row.bits(next, n);
            next += n;
            return number;
        }

        private int takePoints(Row row, int lack) {
            int k = log2(lack + 1);
            int t = 1 << k;
            int m = 2 * t - 2 - lack;
            int u = takeBits(row, k);
            if (u >= m && takeBits(row, 1) == 1) {
                u += t - m;
            }
            return u - 1;
        }

        /** Reads how many from a weight on have 0 points, and answers the next, which may be none. */
        private int takeNone(Row row, int from) {
            int v = from;
            int run = 3;
            while (run == 3 && v < WEIGHTS) {
                run = takeBits(row, 2);
                v += run;
            }
            return v;
        }
    }

    /** A share and a row in two states, as a description of one ORDER has them. */
    private static final class Draft {
        /** More than 12 weights' points and 255 weights of 6 bits ever take. */
        private static final int DRAFT_ROOM = 256;

        private final Row row = new Row(DRAFT_ROOM);
        private final Share share = new Share();
        private final int order;

        Draft(int order) {
            this.order = order;
        }

        /** Writes the first k weights, two at least, which have these counts. */
        void compose(int[] weights, int k, int[] counts) {
            row.empty();
            share.byCounts(order, counts, k);
            share.put(row);
            int state = share.lowestPlace(weights[k - 1]);
            int other = share.lowestPlace(weights[k - 2]);
            for (int i = k - 3; i >= 0; i--) {
                int before = share.placeBefore(state, weights[i]);
                row.put(state - share.bases[before], share.takes[before]);
                state = other;
                other = before;
            }
            // The state whose turn it would be is that of v_1, the one that had the last turn that of v_0.
            row.put(state, order);
            row.put(other, order);
            row.finish();
        }
    }

    /** Writes THE DESCRIPTION of the codes. */
    private static final class Writer {
        /** The length of a way that there is not, more than any that there is. */
        private static final int NO_WAY = 1000;

        private final Draft five = new Draft(LEAST_ORDER);
        private final Draft six = new Draft(MOST_ORDER);
        private final int[] weights = new int[SYMBOLS];
        private final int[] counts = new int[WEIGHTS];

        /** There are codes. Answers how many bytes, or -2. */
        int describeCodes(Codes codes, Row out) {
            int k = codes.highest;
            takeWeights(codes, k);
            boolean mixed = k >= 2 && counts[weights[0]] < k;
            if (mixed) {
                five.compose(weights, k, counts);
                six.compose(weights, k, counts);
            }
            Row draft = six.row.used < five.row.used ? six.row : five.row;
            int direct = k <= DIRECT_MARK ? 1 + (k + 1) / 2 : NO_WAY;
            int states = mixed && draft.used < DIRECT_MARK ? 1 + draft.used : NO_WAY;
            if (direct == NO_WAY && states == NO_WAY) {
                return -2;
            }
            out.empty();
            if (direct <= states) {
                putDirect(out, k);
            } else {
                putStates(out, draft);
            }
            return out.used;
        }

        private void takeWeights(Codes codes, int k) {
            Arrays.fill(counts, 0);
            for (int symbol = 0; symbol < k; symbol++) {
                weights[symbol] = codes.weightOf(symbol);
                counts[weights[symbol]]++;
            }
        }

        private void putDirect(Row out, int k) {
            out.add(DIRECT_MARK - 1 + k);
            for (int symbol = 0; symbol < k; symbol += 2) {
                int second = symbol + 1 < k ? weights[symbol + 1] : 0;
                out.add(weights[symbol] << 4 | second);
            }
        }

        private static void putStates(Row out, Row draft) {
            out.add(draft.used);
            for (int i = 0; i < draft.used; i++) {
                out.add(draft.get(i));
            }
        }
    }

    /** Reads a description; what it was stands here until the next is read. */
    private static final class Reader {
        private final Tail tail = new Tail();
        private final Share share = new Share();
        private final int[] weights = new int[SYMBOLS];
        private final int[] lengths = new int[SYMBOLS];
        private int known;
        private int end;

        /** Reads one from a place in IN on, and answers 0 or the fault's number. */
        int readCodes(Row in, int place) {
            int x = in.get(place);
            int from = place + 1;
            end = from + (x < DIRECT_MARK ? x : (x - DIRECT_MARK + 2) / 2);
            if (x < 0 || end > in.used) {
                return 1;
            }
            if (x >= DIRECT_MARK) {
                takeDirect(in, from, x - DIRECT_MARK + 1);
            } else {
                int row = share.take(in, from, end);
                if (row < 0) {
                    return 2;
                }
                if (!takeRow(in, row)) {
                    return 3;
                }
            }
            return takeLengths() ? 0 : 4;
        }

        private void takeDirect(Row in, int from, int many) {
            known = many;
            for (int i = 0; i < many; i++) {
                int two = in.get(from + i / 2);
                weights[i] = i % 2 == 0 ? two >> 4 : two & 15;
            }
        }

        /** Reads the row in two states from a byte up to the end; false when it is none. */
        private boolean takeRow(Row in, int from) {
            if (!tail.open(in, from, end) || tail.left < 2 * share.order) {
                return false;
            }
            int state = tail.take(in, share.order);
            int other = tail.take(in, share.order);
            // The last turn adds two weights. A row may have no end of its own: a place may take 0 bits.
            for (known = 1; known < MOST_WEIGHTS_READ; known++) {
                weights[known - 1] = share.owners[state];
                if (tail.left < share.takes[state]) {
                    weights[known] = share.owners[other];
                    known++;
                    return true;
                }
                int after = share.bases[state] + tail.take(in, share.takes[state]);
                state = other;
                other = after;
            }
            return false;
        }

        /** Adds the next symbol's weight and makes lengths of all; false when they are no codes. */
        private boolean takeLengths() {
            int sum = 0;
            for (int i = 0; i < known; i++) {
                sum += weights[i] > 0 ? 1 << (weights[i] - 1) : 0;
            }
            int greatest = log2(sum) + 1;
            int rest = (1 << greatest) - sum;
            if (sum == 0 || greatest > MOST_LENGTH || (rest & rest - 1) != 0) {
                return false;
            }
            weights[known] = log2(rest) + 1;
            int ones = 0;
            Arrays.fill(lengths, 0);
            for (int i = 0; i <= known; i++) {
                lengths[i] = weights[i] > 0 ? greatest + 1 - weights[i] : 0;
                ones += weights[i] == 1 ? 1 : 0;
            }
            return ones >= 2;
        }
    }

    /** A row as one STREAM or as FOUR, and back; there are codes whenever it is asked. */
    private static final class Streams {
        private static final int NUMBERS = 6;

        /** What was decoded: a row of its own, since OUT stays when a later stream is at fault. */
        private final Row symbols = new Row(ROOM);
        private final Tail tail = new Tail();

        /**
         * Whether n symbols can be four streams. That three have at most 65535 bytes needs no test:
         * a quarter of what IN holds, at 11 bits each, is far below.
         */
        static boolean areFour(int n) {
            return n >= 3 * quarter(n);
        }

        private static int quarter(int n) {
            return (n + 3) / 4;
        }

        /** How many bits the bytes from .. to - 1 take; -1 when one has no code. */
        static int bitsOf(Codes codes, Row in, int from, int to) {
            int bits = 0;
            for (int i = from; i < to; i++) {
                int length = codes.lengths[in.get(i)];
                if (length == 0) {
                    return -1;
                }
                bits += length;
            }
            return bits;
        }

        /** With the END, which is always there: a bit more than the symbols take. */
        private static int bytesOf(Codes codes, Row in, int from, int to) {
            return bitsOf(codes, in, from, to) / 8 + 1;
        }

        /** Encodes what is behind a place, where all symbols have codes. */
        static int encodeOne(Codes codes, Row in, int place, Row out) {
            if (bytesOf(codes, in, place, in.used) > ROOM) {
                return -4;
            }
            out.empty();
            putStream(codes, in, place, in.used, out);
            return out.used;
        }

        /** Encodes what is behind a place, where all symbols have codes. */
        static int encodeFour(Codes codes, Row in, int place, Row out) {
            int n = in.used - place;
            if (!areFour(n)) {
                return -3;
            }
            int second = place + quarter(n);
            int third = second + quarter(n);
            int fourth = third + quarter(n);
            int firstBytes = bytesOf(codes, in, place, second);
            int secondBytes = bytesOf(codes, in, second, third);
            int thirdBytes = bytesOf(codes, in, third, fourth);
            int fourthBytes = bytesOf(codes, in, fourth, in.used);
            if (NUMBERS + firstBytes + secondBytes + thirdBytes + fourthBytes > ROOM) {
                return -4;
            }
            out.empty();
            out.put(firstBytes, 16);
            out.put(secondBytes, 16);
            out.put(thirdBytes, 16);
            putStream(codes, in, place, second, out);
            putStream(codes, in, second, third, out);
            putStream(codes, in, third, fourth, out);
            putStream(codes, in, fourth, in.used, out);
            return out.used;
        }

        private static void putStream(Codes codes, Row in, int from, int to, Row out) {
            for (int i = to - 1; i >= from; i--) {
                int symbol = in.get(i);
                out.put(codes.values[symbol], codes.lengths[symbol]);
            }
            out.finish();
        }

        /** Decodes n symbols, at most what a row holds; answers 0 or the fault. */
        int decodeOne(Codes codes, Row in, int place, int n) {
            symbols.empty();
            return takeStream(codes, in, place, in.used, n);
        }

        /** Decodes n symbols, at most what a row holds and such that are four; answers 0 or the fault. */
        int decodeFour(Codes codes, Row in, int place, int n) {
            int first = place + NUMBERS;
            if (first > in.used) {
                return -2;
            }
            int second = first + in.bits(8 * place, 16);
            int third = second + in.bits(8 * place + 16, 16);
            int fourth = third + in.bits(8 * place + 32, 16);
            if (fourth > in.used) {
                return -2;
            }
            int c = quarter(n);
            symbols.empty();
            int fault = takeStream(codes, in, first, second, c);
            if (fault == 0) {
                fault = takeStream(codes, in, second, third, c);
            }
            if (fault == 0) {
                fault = takeStream(codes, in, third, fourth, c);
            }
            if (fault == 0) {
                fault = takeStream(codes, in, fourth, in.used, n - 3 * c);
            }
            return fault;
        }

        /** Reads n symbols from the bytes from .. to - 1; answers 0, or -3 or -4. */
        private int takeStream(Codes codes, Row in, int from, int to, int n) {
            if (!tail.open(in, from, to)) {
                return -3;
            }
            for (int i = 0; i < n; i++) {
                int symbol = codes.cells[tail.look(in, codes.greatest)];
                if (!tail.drop(codes.lengths[symbol])) {
                    return -4;
                }
                symbols.add(symbol);
            }
            return tail.left == 0 ? 0 : -4;
        }
    }
}
