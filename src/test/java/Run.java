import java.util.Arrays;

/** A run of calls on a new object: each call is told with the answer that is due. */
final class Run {
    /** What an object answers after as many calls is free. */
    private static final int MOST_CALLS = 512;

    private final Due due;
    private final PrefixMill mill = new PrefixMill();
    private int calls = 0;

    Run(Due due) {
        this.due = due;
    }

    private Run tell(String call, long got, long want) {
        called();
        due.same(call, got, want);
        return this;
    }

    private Run tell(String call, boolean got, boolean want) {
        return tell(call, got ? 1 : 0, want ? 1 : 0);
    }

    private void called() {
        calls++;
        if (calls > MOST_CALLS) {
            throw new IllegalStateException("a test that calls one object too often");
        }
    }

    Run write(long eight, int n, boolean want) {
        return tell("write(" + eight + ", " + n + ")", mill.write(eight, n), want);
    }

    Run again(int m, int n, boolean want) {
        return tell("again(" + m + ", " + n + ")", mill.again(m, n), want);
    }

    Run turn() {
        called();
        mill.turn();
        return this;
    }

    Run clear() {
        called();
        mill.clear();
        return this;
    }

    Run place(int p, boolean want) {
        return tell("place(" + p + ")", mill.place(p), want);
    }

    Run at(int want) {
        return tell("at()", mill.at(), want);
    }

    Run count(int symbol, int c, boolean want) {
        return tell("count(" + symbol + ", " + c + ")", mill.count(symbol, c), want);
    }

    Run countAll(int want) {
        return tell("countAll()", mill.countAll(), want);
    }

    Run lengths(int most, int want) {
        return tell("lengths(" + most + ")", mill.lengths(most), want);
    }

    Run just(int want) {
        return tell("just()", mill.just(), want);
    }

    Run describe(int want) {
        return tell("describe()", mill.describe(), want);
    }

    Run read(int want) {
        return tell("read()", mill.read(), want);
    }

    Run encode(boolean four, int want) {
        return tell("encode(" + four + ")", mill.encode(four), want);
    }

    Run decode(int n, boolean four, int want) {
        return tell("decode(" + n + ", " + four + ")", mill.decode(n, four), want);
    }

    Run about(int what, int want) {
        return tell("about(" + what + ")", mill.about(what), want);
    }

    Run code(int symbol, int what, int want) {
        return tell("code(" + symbol + ", " + what + ")", mill.code(symbol, what), want);
    }

    Run size(int want) {
        return tell("size()", mill.size(), want);
    }

    Run byteAt(int k, int want) {
        return tell("byteAt(" + k + ")", mill.byteAt(k), want);
    }

    // Several calls at once.

    /** Appends these bytes to IN. */
    Run in(int... bytes) {
        for (int i = 0; i < bytes.length; i += 8) {
            int n = Math.min(8, bytes.length - i);
            // What is below the n bytes is none of IN's.
            long eight = 0;
            for (int j = 0; j < 8; j++) {
                eight = eight << 8 | (j < n ? bytes[i + j] : 0xA5);
            }
            write(eight, n, true);
        }
        return this;
    }

    /** Fills IN, which is empty, with as many of one byte. */
    Run inOf(int symbol, int many) {
        return in(symbol).again(1, many - 1, true);
    }

    /** Counts of the symbols from one on. */
    Run counts(int first, int... counts) {
        for (int i = 0; i < counts.length; i++) {
            count(first + i, counts[i], true);
        }
        return this;
    }

    /** Codes of these lengths, 0 for none, for the symbols from one on; the counts are 0 then. */
    Run codes(int first, int... lengths) {
        counts(first, lengths).just(Arrays.stream(lengths).max().getAsInt());
        return counts(first, new int[lengths.length]);
    }

    /** The LENGTHS of the symbols from one on, 0 for none. */
    Run lengthsAre(int first, int... lengths) {
        for (int i = 0; i < lengths.length; i++) {
            code(first + i, 0, lengths[i] == 0 ? -1 : lengths[i]);
        }
        return this;
    }

    /** OUT as a whole. */
    Run out(int... bytes) {
        size(bytes.length);
        for (int k = 0; k < bytes.length; k++) {
            byteAt(k, bytes[k]);
        }
        return byteAt(bytes.length, -1);
    }

    /** IN from PLACE on: by codes of eight bits for all symbols, which are the symbols, from the last on. */
    Run inIs(int... bytes) {
        counts(0, Bits.many(8, 256)).just(8).encode(false, bytes.length + 1);
        for (int k = 0; k < bytes.length; k++) {
            byteAt(bytes.length - 1 - k, bytes[k]);
        }
        return byteAt(bytes.length, 1);
    }
}
