import java.util.ArrayList;
import java.util.Collections;
import java.util.List;
import java.util.Random;

/**
 * Compares PrefixMill with PlainMill over runs of calls that are drawn with fixed seeds: after each
 * call the answer, PLACE, OUT and what is said of the codes must be the same.
 */
public final class RandomTest {
    private static final Due DUE = new Due();

    private final Random random;
    private final String name;
    private final PrefixMill mill = new PrefixMill();
    private final PlainMill plain = new PlainMill();

    private RandomTest(long seed) {
        random = new Random(seed);
        name = "seed " + seed + ": ";
    }

    public static void main(String[] args) {
        int runs = args.length > 0 ? Integer.parseInt(args[0]) : 2500;
        for (int seed = 1; seed <= runs && !DUE.isWrong(); seed++) {
            new RandomTest(seed).run();
        }
        DUE.end();
    }

    private int below(int n) {
        return random.nextInt(n);
    }

    private int from(int low, int high) {
        return low + below(high - low + 1);
    }

    private void run() {
        same("a new object", 0, 0);
        for (int i = 0; i < 12; i++) {
            switch (below(9)) {
                case 0 -> rowCalls();
                case 1 -> textCalls();
                case 2 -> countCalls();
                case 3 -> justCalls();
                case 4 -> descriptionCalls();
                case 5 -> strangeDescription();
                case 6 -> streamCalls(random.nextBoolean());
                case 7 -> strangeStream();
                default -> askCalls();
            }
        }
    }

    // Each call on both, and the state behind it.

    private void same(String call, long got, long want) {
        DUE.same(name + call, got, want);
        DUE.same(name + call + ", then at()", mill.at(), plain.place);
        DUE.same(name + call + ", then size()", mill.size(), plain.out.size());
        for (int k = 0; k < plain.out.size(); k++) {
            if (mill.byteAt(k) != plain.out.get(k)) {
                DUE.same(name + call + ", then byteAt(" + k + ")", mill.byteAt(k), plain.out.get(k));
            }
        }
        for (int what = 0; what < 3; what++) {
            DUE.same(name + call + ", then about(" + what + ")", mill.about(what), plain.about(what));
        }
    }

    private void write(long eight, int n) {
        same("write(" + eight + ", " + n + ")", mill.write(eight, n) ? 1 : 0, plain.write(eight, n) ? 1 : 0);
    }

    private void again(int m, int n) {
        same("again(" + m + ", " + n + ")", mill.again(m, n) ? 1 : 0, plain.again(m, n) ? 1 : 0);
    }

    private void turn() {
        mill.turn();
        plain.turn();
        same("turn()", 0, 0);
    }

    private void clear() {
        mill.clear();
        plain.clear();
        same("clear()", 0, 0);
    }

    private void place(int p) {
        same("place(" + p + ")", mill.place(p) ? 1 : 0, plain.place(p) ? 1 : 0);
    }

    private void count(int symbol, int c) {
        DUE.same(name + "count(" + symbol + ", " + c + ")", mill.count(symbol, c), plain.count(symbol, c));
    }

    private void countAll() {
        same("countAll()", mill.countAll(), plain.countAll());
    }

    private void lengths(int most) {
        same("lengths(" + most + ")", mill.lengths(most), plain.lengths(most));
        codes();
    }

    private void just() {
        same("just()", mill.just(), plain.just());
        codes();
    }

    private void read() {
        same("read()", mill.read(), plain.read());
        codes();
    }

    private void describe() {
        same("describe()", mill.describe(), plain.describe());
    }

    private void encode(boolean four) {
        same("encode(" + four + ")", mill.encode(four), plain.encode(four));
    }

    private void decode(int n, boolean four) {
        same("decode(" + n + ", " + four + ")", mill.decode(n, four), plain.decode(n, four));
    }

    private void codes() {
        for (int symbol = -1; symbol <= 256; symbol++) {
            DUE.same(name + "code(" + symbol + ", 0)", mill.code(symbol, 0), plain.code(symbol, 0));
        }
        for (int i = 0; i < 4; i++) {
            int symbol = below(256);
            DUE.same(name + "code(" + symbol + ", 1)", mill.code(symbol, 1), plain.code(symbol, 1));
        }
    }

    // Runs of calls.

    private void writeAll(List<Integer> bytes) {
        for (int i = 0; i < bytes.size(); i += 8) {
            long eight = 0;
            int n = Math.min(8, bytes.size() - i);
            for (int j = 0; j < 8; j++) {
                eight = eight << 8 | (j < n ? bytes.get(i + j) : below(256));
            }
            DUE.same(name + "write", mill.write(eight, n), plain.write(eight, n));
        }
        same("writes", 0, 0);
    }

    private void rowCalls() {
        for (int i = 0; i < 6; i++) {
            switch (below(7)) {
                case 0 -> write(random.nextLong(), from(-1, 10));
                case 1 -> again(from(-1, 12), from(-1, 5));
                case 2 -> again(from(1, Math.max(1, plain.in.size())), below(1 << below(31)));
                case 3 -> again(1, 6000 - plain.in.size() + from(-8, 1));
                case 4 -> place(from(-1, plain.in.size() + 1));
                case 5 -> countAll();
                default -> turn();
            }
        }
        if (plain.in.size() > 3000 && below(3) > 0) {
            clear();
        }
    }

    /** A text over some symbols, few of them often. */
    private void textCalls() {
        clear();
        int kinds = from(1, 1 << from(0, 8));
        int first = below(257 - kinds);
        int many = below(1 << from(0, 9));
        List<Integer> text = new ArrayList<>();
        double bend = 0.5 + 6 * random.nextDouble();
        for (int i = 0; i < many; i++) {
            text.add(first + (int) (kinds * Math.pow(random.nextDouble(), bend)));
        }
        writeAll(text);
        if (below(4) > 0) {
            countAll();
            lengths(from(0, 12));
        }
    }

    private void countCalls() {
        if (random.nextBoolean()) {
            clear();
        }
        int kinds = from(1, 1 << from(0, 8));
        int high = from(1, 16);
        for (int i = 0; i < kinds; i++) {
            int symbol = kinds == 256 ? i : below(256);
            count(symbol, below(8) == 0 ? 1 << below(16) : below(1 << from(0, high)));
        }
        count(from(-2, 258), from(-2, 3));
        count(below(256), from(65533, 65537));
        lengths(from(1, 11));
    }

    /** Lengths that are codes, or are nearly. */
    private void justCalls() {
        clear();
        int deepest = from(1, 11);
        int kinds = from(2, Math.min(256, 1 << deepest));
        List<Integer> lengths = new ArrayList<>(List.of(0));
        for (int tries = 0; tries < 4000 && lengths.size() < kinds; tries++) {
            int i = below(3) == 0 ? 0 : below(lengths.size());
            // At times several levels at once, so that lengths between are not there.
            int levels = below(4) == 0 ? from(1, 7) : 1;
            if (lengths.get(i) + levels <= deepest && lengths.size() + (1 << levels) <= 257) {
                int length = lengths.remove(i) + levels;
                lengths.addAll(Collections.nCopies(1 << levels, length));
            }
        }
        int span = from(lengths.size(), Math.min(256, lengths.size() * from(1, 8)));
        while (lengths.size() < span) {
            lengths.add(0);
        }
        if (random.nextBoolean()) {
            Collections.shuffle(lengths, random);
        }
        int first = below(257 - span);
        for (int i = 0; i < span; i++) {
            count(first + i, lengths.get(i));
        }
        if (below(3) == 0) {
            count(first + below(span), from(0, 12));
        }
        just();
        describe();
    }

    private void descriptionCalls() {
        describe();
        List<Integer> bytes = new ArrayList<>(plain.out);
        int broken = below(3);
        for (int i = 0; i < broken && !bytes.isEmpty(); i++) {
            int k = random.nextBoolean() ? below(bytes.size()) : below(Math.min(4, bytes.size()));
            switch (below(5)) {
                case 0 -> bytes.set(k, below(256));
                case 1 -> bytes.set(k, bytes.get(k) ^ 1 << below(8));
                case 2 -> bytes.remove(k);
                case 3 -> bytes.add(k, below(256));
                default -> bytes.set(bytes.size() - 1, below(3));
            }
        }
        clear();
        int skipped = below(3);
        writeAll(Collections.nCopies(skipped, 7));
        writeAll(bytes);
        writeAll(Collections.nCopies(below(3), 0));
        place(skipped);
        read();
        describe();
    }

    /** A share drawn by hand and a row of drawn bits, so that faults 2, 3 and 4 all come often. */
    private void strangeDescription() {
        clear();
        List<Integer> bytes = new ArrayList<>();
        if (below(4) == 0) {
            int x = from(126, 255);
            bytes.add(x);
            int one = below(6);
            for (int i = 0; i < 65; i++) {
                bytes.add(below(4) == 0 ? below(256) : 17 * below(one + 1));
            }
            bytes = bytes.subList(0, from(1, bytes.size()));
        } else {
            int many = below(1 << from(0, 7));
            bytes.add(many);
            for (int i = 0; i < many; i++) {
                bytes.add(i == 0 && below(4) > 0 ? below(16) * 16 + below(2) : below(256));
            }
            if (below(6) == 0) {
                bytes.add(9);
            }
        }
        writeAll(bytes);
        read();
    }

    private void streamCalls(boolean four) {
        switch (below(3)) {
            case 0 -> {
                textCalls();
                countAll();
                lengths(from(6, 11));
            }
            case 1 -> {
                justCalls();
                textByCodes();
            }
            default -> { }
        }
        place(below(5) == 0 ? from(0, plain.in.size()) : 0);
        int n = plain.in.size() - plain.place;
        encode(four);
        List<Integer> kept = new ArrayList<>(plain.in);
        turn();
        decode(n, four);
        decode(n + from(-2, 2), below(8) == 0 ? !four : four);
        List<Integer> bytes = new ArrayList<>(plain.in);
        clear();
        if (random.nextBoolean()) {
            writeAll(kept);
        } else if (!bytes.isEmpty()) {
            int k = random.nextBoolean() ? below(bytes.size()) : below(Math.min(6, bytes.size()));
            switch (below(4)) {
                case 0 -> bytes.set(k, below(256));
                case 1 -> bytes.set(k, Math.floorMod(bytes.get(k) + from(-1, 1), 256));
                case 2 -> bytes.remove(bytes.size() - 1);
                default -> bytes.add(0);
            }
            writeAll(bytes);
            decode(n, four);
        }
    }

    /** A text of such symbols alone that have codes, be these by counts or not. */
    private void textByCodes() {
        clear();
        List<Integer> known = new ArrayList<>();
        for (int symbol = 0; symbol < 256 && plain.codes != null; symbol++) {
            if (plain.codes[symbol] > 0) {
                known.add(symbol);
            }
        }
        List<Integer> text = new ArrayList<>();
        int many = known.isEmpty() ? 0 : below(1 << from(0, 9));
        for (int i = 0; i < many; i++) {
            text.add(known.get(below(known.size())));
        }
        writeAll(text);
    }

    private void strangeStream() {
        clear();
        int n = below(1 << from(0, 5));
        List<Integer> bytes = new ArrayList<>();
        if (below(3) > 0) {
            for (int i = 0; i < 3; i++) {
                bytes.add(below(4));
                bytes.add(below(30) == 0 ? 1 : 0);
            }
        }
        int many = below(12);
        for (int i = 0; i < many; i++) {
            bytes.add(random.nextBoolean() ? below(3) : below(256));
        }
        writeAll(bytes);
        decode(n, true);
        decode(n, false);
        decode(from(-1, 4), true);
        decode(from(5999, 6001), false);
    }

    private void askCalls() {
        int symbol = from(-2, 257);
        int what = from(-1, 2);
        DUE.same(name + "code(" + symbol + ", " + what + ")", mill.code(symbol, what), plain.code(symbol, what));
        DUE.same(name + "about(3)", mill.about(3), -1);
        DUE.same(name + "about(-1)", mill.about(-1), -1);
        DUE.same(name + "byteAt(-1)", mill.byteAt(-1), -1);
        DUE.same(name + "byteAt(size)", mill.byteAt(plain.out.size()), -1);
        DUE.same(name + "byteAt(least)", mill.byteAt(Integer.MIN_VALUE), -1);
    }
}
