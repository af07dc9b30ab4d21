import java.util.ArrayList;
import java.util.List;

/** Promises 12 and 13: the description, written and read. */
public final class DescriptionTest {
    private static final Due DUE = new Due();

    public static void main(String[] args) {
        describeRefused();
        describeDirect();
        describeByStates();
        describeGaps();
        describeTooMuch();
        describeChooses();
        describeKeeps();
        readDirect();
        readByStates();
        faultOne();
        faultTwo();
        faultThree();
        faultFour();
        readKeeps();
        thereAndBack();
        DUE.end();
    }

    private static PrefixMill withLengths(int first, int... lengths) {
        PrefixMill mill = new PrefixMill();
        for (int i = 0; i < lengths.length; i++) {
            mill.count(first + i, lengths[i]);
        }
        DUE.same("just()", mill.just() > 0, true);
        return mill;
    }

    /** The first many symbols have one length, the next one another. */
    private static PrefixMill withMany(int many, int length, int last) {
        int[] lengths = new int[many + 1];
        java.util.Arrays.fill(lengths, length);
        lengths[many] = last;
        return withLengths(0, lengths);
    }

    private static PrefixMill withIn(int... bytes) {
        PrefixMill mill = new PrefixMill();
        put(mill, bytes);
        return mill;
    }

    private static void put(PrefixMill mill, int... bytes) {
        for (int b : bytes) {
            DUE.same("write", mill.write((long) b << 56, 1), true);
        }
    }

    /** A description of numbers, each told as "number:bits", and of bytes behind them. */
    private static int[] byBits(String text, int... behind) {
        return Bits.described(Bits.of(text), behind);
    }

    private static void fault(int number, String what, int... bytes) {
        PrefixMill mill = withIn(bytes);
        DUE.same("read() of " + what, mill.read(), -number);
        DUE.same("read() of " + what + ", then at()", mill.at(), 0);
        DUE.same("read() of " + what + ", then about(0)", mill.about(0), -1);
    }

    private static void describeRefused() {
        PrefixMill mill = new PrefixMill();
        DUE.same("describe() without codes", mill.describe(), -1);
        // All weights but the last are the same, and there are too many for DIRECT.
        int[][] neither = {{255, 8, 8}, {254, 8, 7}, {252, 8, 6}, {248, 8, 5}, {240, 8, 4}, {224, 8, 3}, {192, 8, 2}};
        for (int[] one : neither) {
            mill = withMany(one[0], one[1], one[2]);
            DUE.same("describe() of " + one[0] + " the same", mill.describe(), -2);
            DUE.same("refused: size()", mill.size(), 0);
        }
    }

    private static void describeDirect() {
        PrefixMill mill = withLengths(0, 1, 1);
        DUE.same("describe() of 1 1", mill.describe(), 2);
        DUE.out("1 1", mill, 128, 0x10);
        mill = withLengths(0, 1, 2, 2);
        DUE.same("describe() of 1 2 2", mill.describe(), 2);
        DUE.out("1 2 2", mill, 129, 0x21);
        mill = withLengths(0, 2, 2, 2, 2);
        DUE.same("describe() of 2 2 2 2", mill.describe(), 3);
        DUE.out("2 2 2 2", mill, 130, 0x11, 0x10);
        mill = withLengths(3, 1, 1);
        DUE.same("describe() of 0 0 0 1 1", mill.describe(), 3);
        DUE.out("0 0 0 1 1", mill, 131, 0x00, 0x01);
        mill = withLengths(0, 1, 2, 3, 4, 5, 6, 7, 8, 9, 10, 11, 11);
        DUE.same("describe() of 1 .. 11 11", mill.describe(), 7);
        DUE.out("1 .. 11 11", mill, 138, 0xBA, 0x98, 0x76, 0x54, 0x32, 0x10);
        // Behind a longer one on the same object, the half behind an odd number of weights is 0 again.
        mill = withLengths(0, 2, 2, 2, 2);
        mill.describe();
        mill.clear();
        mill.count(0, 1);
        mill.count(1, 1);
        mill.just();
        DUE.same("describe() of 1 1 behind another", mill.describe(), 2);
        DUE.out("1 1 behind another", mill, 128, 0x10);
        // 128 weights, all the same: the most that DIRECT has, and no other way.
        mill = withMany(128, 8, 1);
        DUE.same("describe() of 128 the same", mill.describe(), 65);
        DUE.same("its first byte", mill.byteAt(0), 255);
        DUE.same("its second byte", mill.byteAt(1), 0x11);
        DUE.same("its last byte", mill.byteAt(64), 0x11);
    }

    private static void describeByStates() {
        // 20 weights of 0 and one of 1, worked out by hand: ORDER 5, points 30 and 2; symbol 20's places
        // are 9 and 18; A goes 9 12 15 19 23 27 31 1 3 5 7 and writes a 1 at 31, B 0 2 4 6 8 11 14 17 21 25.
        PrefixMill mill = withLengths(20, 1, 1);
        DUE.same("describe() of 20 and 21", mill.describe(), 5);
        DUE.out("20 and 21", mill, 4, 0xF0, 0x0D, 0xF3, 0x09);
        // k is 254: 254 zeros, no two weights that differ but for the 1 of symbol 254.
        mill = withLengths(254, 1, 1);
        DUE.same("describe() of 254 and 255", mill.describe() > 0, true);
        DUE.same("by states", mill.byteAt(0) == mill.size() - 1 && mill.size() < 128, true);
    }

    /** How many symbols have weight 0, 1, ..: in an order that is drawn, and one more that completes them. */
    private static int[] lengthsOf(int[] counts, long seed) {
        List<Integer> weights = new ArrayList<>();
        int sum = 0;
        for (int v = 0; v < counts.length; v++) {
            for (int i = 0; i < counts[v]; i++) {
                weights.add(v);
                sum += v > 0 ? 1 << (v - 1) : 0;
            }
        }
        java.util.Collections.shuffle(weights, new java.util.Random(seed));
        int t = 32 - Integer.numberOfLeadingZeros(sum);
        weights.add(1 + Integer.numberOfTrailingZeros((1 << t) - sum));
        return weights.stream().mapToInt(v -> v == 0 ? 0 : t + 1 - v).toArray();
    }

    /** Describes codes with these counts of weights in many orders; the share must begin the description. */
    private static void sharesAre(String name, int[] counts, int[] share) {
        boolean seen = false;
        for (int seed = 0; seed < 60; seed++) {
            int[] lengths = lengthsOf(counts, seed);
            PrefixMill mill = withLengths(0, lengths);
            PlainMill plain = new PlainMill();
            for (int s = 0; s < lengths.length; s++) {
                plain.count(s, lengths[s]);
            }
            plain.just();
            DUE.same(name + ": describe()", mill.describe(), plain.describe());
            DUE.out(name, mill, plain.out.stream().mapToInt(b -> b).toArray());
            if (mill.byteAt(0) < 128 && mill.byteAt(1) % 16 == share[1] % 16) {
                seen = true;
                for (int i = 1; i < share.length; i++) {
                    DUE.same(name + ": byte " + i + " of the share", mill.byteAt(i), share[i]);
                }
            }
        }
        DUE.same(name + ": the ORDER was seen", seen, true);
    }

    private static void describeGaps() {
        // No weights between 1 and another: three, four, five, six and seven of them have 0 points.
        sharesAre("1 and 5", new int[] {0, 15, 0, 0, 0, 1}, byBits("0:4 1:5 0:2 31:6 1:2 2:2 3:2"));
        sharesAre("1 and 6", new int[] {0, 31, 0, 0, 0, 0, 1}, byBits("0:4 1:5 0:2 62:6 1:2 3:2 0:2 3:2"));
        sharesAre("1 and 7", new int[] {0, 63, 0, 0, 0, 0, 0, 1}, byBits("0:4 1:5 0:2 62:6 1:2 3:2 1:2 0:1"));
        sharesAre("1 and 8", new int[] {0, 127, 0, 0, 0, 0, 0, 0, 1}, byBits("0:4 1:5 0:2 62:6 1:2 3:2 2:2 0:1"));
        sharesAre("1 and 9", new int[] {0, 128, 0, 0, 0, 0, 0, 0, 0, 1},
                byBits("0:4 1:5 0:2 62:6 1:2 3:2 3:2 0:2 0:1"));
        sharesAre("1, 9 and 11", new int[] {0, 128, 0, 0, 0, 0, 0, 0, 0, 3, 0, 1},
                byBits("0:4 1:5 0:2 31:6 1:2 3:2 3:2 0:2 0:2 1:2 0:2 0:1"));
        sharesAre("0, 1, 7 and 9 to 11", new int[] {99, 63, 0, 0, 0, 0, 0, 3, 0, 1, 1, 1},
                byBits("0:4 17:5 13:4 1:2 3:2 1:2 0:2 1:2 0:2 0:2 0:2 0:1"));
    }

    /** Those of -1 points make the masses too much: the lowest of two with the most points has one less. */
    private static void describeTooMuch() {
        sharesAre("one too much", new int[] {106, 106, 1, 3, 0, 6, 5, 0, 5},
                byBits("0:4 14:5 15:5 0:2 0:2 1:2 0:2 0:2 0:2 1:2 0:2 0:1"));
        // Here the first byte alone is told: the ORDER, and four of the five bits of the points of 0.
        sharesAre("four too much", new int[] {106, 106, 5, 1, 1, 2, 6, 2, 4, 4}, byBits("0:4 13:4"));
        sharesAre("two too much", new int[] {96, 96, 4, 6, 0, 3, 4, 3, 0, 2}, byBits("0:4 14:4"));
    }

    private static void describeChooses() {
        // Which way and which ORDER, by the lengths of all three as PlainMill has them.
        boolean[] seen = new boolean[5];
        for (int first = 0; first < 200; first++) {
            for (int deep = 1; deep <= 11; deep++) {
                int[] lengths = new int[deep + 1];
                for (int i = 0; i < deep; i++) {
                    lengths[i] = i + 1;
                }
                lengths[deep] = deep;
                PrefixMill mill = withLengths(first, lengths);
                PlainMill plain = new PlainMill();
                for (int i = 0; i <= deep; i++) {
                    plain.count(first + i, lengths[i]);
                }
                plain.just();
                String name = "describe() of 1 .. " + deep + " from " + first + " on";
                DUE.same(name, mill.describe(), plain.describe());
                DUE.out(name, mill, plain.out.stream().mapToInt(b -> b).toArray());
                boolean direct = mill.byteAt(0) > 127;
                seen[direct ? 0 : 1 + mill.byteAt(1) % 16] = true;
            }
        }
        DUE.same("direct was seen", seen[0], true);
        DUE.same("ORDER 5 was seen", seen[1], true);
        DUE.same("ORDER 6 was seen", seen[2], true);
    }

    private static void describeKeeps() {
        PrefixMill mill = withLengths(20, 1, 1);
        mill.write(0x1415000000000000L, 2);
        mill.place(1);
        mill.describe();
        DUE.same("describe() leaves PLACE", mill.at(), 1);
        DUE.same("describe() leaves IN", mill.about(2), 1);
        DUE.same("describe() leaves the codes", mill.about(1), 2);
        DUE.same("describe() leaves the counts", mill.just(), 1);
        for (int s = 0; s < 256; s++) {
            mill.count(s, 8);
        }
        mill.just();
        DUE.same("describe() in neither way", mill.describe(), -2);
        DUE.out("refused", mill, 4, 0xF0, 0x0D, 0xF3, 0x09);
    }

    private static void readDirect() {
        PrefixMill mill = withIn(9, 129, 0x21, 7);
        mill.place(1);
        DUE.same("read() of 129 21", mill.read(), 2);
        DUE.same("at() behind it", mill.at(), 3);
        DUE.same("length of 0", mill.code(0, 0), 1);
        DUE.same("length of 1", mill.code(1, 0), 2);
        DUE.same("length of 2", mill.code(2, 0), 2);
        DUE.same("three symbols", mill.about(1), 3);
        // The half behind an odd number of weights counts for nothing.
        mill = withIn(128, 0x1F);
        DUE.same("read() of 128 1F", mill.read(), 1);
        DUE.same("at() at the end", mill.at(), 2);
        DUE.same("two symbols", mill.about(1), 2);
        mill = withIn(138, 0xBA, 0x98, 0x76, 0x54, 0x32, 0x10);
        DUE.same("read() of the longest", mill.read(), 11);
        DUE.same("at() behind it", mill.at(), 7);
        DUE.same("length of 0", mill.code(0, 0), 1);
        DUE.same("length of 11", mill.code(11, 0), 11);
        // Zeros at the end: the next symbol is behind them.
        mill = withIn(131, 0x10, 0x00);
        DUE.same("read() of 1 0 0 0", mill.read(), 1);
        DUE.same("length of 1", mill.code(1, 0), -1);
        DUE.same("length of 4", mill.code(4, 0), 1);
    }

    private static void readByStates() {
        PrefixMill mill = withIn(4, 0xF0, 0x0D, 0xF3, 0x09, 0);
        DUE.same("read() of 20 and 21", mill.read(), 1);
        DUE.same("at() behind it", mill.at(), 5);
        DUE.same("length of 20", mill.code(20, 0), 1);
        DUE.same("length of 21", mill.code(21, 0), 1);
        DUE.same("two symbols", mill.about(1), 2);
        // What stands behind the share in its last byte is of no matter.
        mill = withIn(4, 0xF0, 0xFD, 0xF3, 0x09);
        DUE.same("read() with bits behind the share", mill.read(), 1);
        // Places 9 and 0 alone: weights 1 and 0, so symbols 0 and 2.
        mill = withIn(byBits("0:4 31:6 3:2", 0x20, 0x05));
        DUE.same("read() of two weights", mill.read(), 1);
        DUE.same("length of 0", mill.code(0, 0), 1);
        DUE.same("length of 1", mill.code(1, 0), -1);
        DUE.same("length of 2", mill.code(2, 0), 1);
    }

    private static void faultOne() {
        fault(1, "nothing");
        fault(1, "128 alone", 128);
        fault(1, "3 and two", 3, 0, 0);
        fault(1, "127 alone", 127);
        fault(1, "130 and one", 130, 0x11);
        fault(1, "255 and 63", java.util.Arrays.copyOf(new int[] {255}, 64));
        fault(1, "127 and 126", java.util.Arrays.copyOf(new int[] {127}, 127));
        // Fault 1 comes before those of what is there.
        fault(1, "a wrong ORDER cut off", 2, 0xFF);
        PrefixMill mill = withIn(129, 0x21);
        mill.place(2);
        DUE.same("read() at the end", mill.read(), -1);
        DUE.same("at() stays", mill.at(), 2);
        mill.place(1);
        DUE.same("read() of 33 bytes", mill.read(), -1);
    }

    private static void faultTwo() {
        fault(2, "no bytes", 0);
        fault(2, "no bytes with some behind", 0, 0xF0, 0x0D, 0xF3, 0x09);
        int[] orders = {2, 3, 7, 15};
        for (int order : orders) {
            fault(2, "ORDER " + (5 + order), 4, 0xF0 | order, 0x0D, 0xF3, 0x09);
        }
        fault(2, "a share that is cut off", 1, 0xF0);
        fault(2, "a share cut off, its rest behind", 1, 0xF0, 0x0D, 0xF3, 0x09);
        // v 0 has none, and so have 9, and then 3 more up to 12.
        fault(2, "12 said to have none", byBits("0:4 1:5 3:2 3:2 3:2 3:2 0:2 63:6", 0xFF, 0xFF, 0xFF));
        fault(2, "12 with points", byBits("0:4 1:5 3:2 3:2 3:2 2:2 63:6", 0xFF, 0xFF, 0xFF));
        fault(2, "12 with none, at last", byBits("0:4 1:5 3:2 3:2 3:2 0:2 1:5 2:2 63:6", 0xFF, 0xFF, 0xFF));
        fault(2, "11 with too few points", byBits("0:4 1:5 3:2 3:2 3:2 1:2 2:5 2:5", 0xFF, 0xFF, 0xFF));
        fault(2, "-1 for all", byBits("0:4 0:5 0:5 0:5 0:5 0:5 0:5 0:5 0:5 0:5 0:5 0:5 0:5 0:5 0:5", 0xFF, 0xFF));
        // Points of 11 up to the last: this is a share, and the row is what is wrong.
        fault(3, "11 with all points", byBits("0:4 1:5 3:2 3:2 3:2 1:2 63:6", 0xFF, 0xFF, 0xFF));
    }

    private static void faultThree() {
        fault(3, "no row", 2, 0xF0, 0x0D);
        // A share of just 16 bits: 30 points for 0 and 2 for 2.
        fault(3, "no row behind whole bytes", byBits("0:4 31:6 1:2 0:2 3:2"));
        fault(2, "a share of 16 bits cut off", 1, byBits("0:4 31:6 1:2 0:2 3:2")[1]);
        fault(4, "two zeros behind whole bytes", byBits("0:4 31:6 1:2 0:2 3:2", 0x00, 0x04));
        fault(3, "no row, bytes behind", 2, 0xF0, 0x0D, 0xF3, 0x09);
        fault(3, "a row without END", 3, 0xF0, 0x0D, 0x00);
        fault(3, "a last byte of 0", 5, 0xF0, 0x0D, 0xF3, 0x09, 0x00);
        fault(3, "0 bits", 3, 0xF0, 0x0D, 0x01);
        fault(3, "9 bits", 4, 0xF0, 0x0D, 0x20, 0x03);
        fault(4, "10 bits, two zeros", 4, 0xF0, 0x0D, 0x00, 0x04);
        // ORDER 6 takes 12 bits for both: 62 and 2 points.
        fault(3, "11 bits", byBits("1:4 63:7 3:2", 0x00, 0x08));
        fault(4, "12 bits, two zeros", byBits("1:4 63:7 3:2", 0x00, 0x10));
        fault(3, "a row without end", byBits("0:4 63:6", 0xFF, 0xFF));
        rowsOf255();
    }

    /** 255 weights are the most; PlainMill writes rows of any length. */
    private static void rowsOf255() {
        for (int many = 250; many <= 260; many++) {
            List<Integer> weights = new ArrayList<>();
            for (int i = 0; i < many; i++) {
                weights.add(i == 100 ? 1 : 0);
            }
            for (int order = 5; order <= 6; order++) {
                List<Integer> bytes = PlainMill.states(weights, order);
                bytes.add(0, bytes.size());
                PrefixMill mill = withIn(bytes.stream().mapToInt(b -> b).toArray());
                String name = "read() of " + many + " weights, ORDER " + order;
                DUE.same(name, mill.read(), many <= 255 ? 1 : -3);
                DUE.same(name + ", then the last", mill.code(Math.min(many, 255), 0), many <= 255 ? 1 : -1);
                DUE.same(name + ", then at()", mill.at(), many <= 255 ? bytes.size() : 0);
            }
        }
    }

    private static void faultFour() {
        fault(4, "a weight of 0", 128, 0x00);
        fault(4, "a weight of 0 and a half", 128, 0x01);
        fault(4, "a weight of 12", 129, 0xC1);
        fault(4, "a weight of 15", 129, 0xF1);
        fault(4, "two weights of 11", 131, 0xBB, 0x11);
        fault(4, "weights 3 and 1", 129, 0x31);
        fault(4, "a weight of 2", 128, 0x20);
        fault(4, "weights 3 and 3", 129, 0x33);
        fault(4, "weights 2 and 3", 129, 0x23);
        int[] full = java.util.Arrays.copyOf(new int[] {255}, 65);
        java.util.Arrays.fill(full, 1, 65, 0xFF);
        fault(4, "128 weights of 15", full);
        // 2^11 would be needed for the next: the sum is 2^10 + 2^10.
        fault(4, "T of 12", 139, 0xBA, 0x98, 0x76, 0x54, 0x32, 0x11);
    }

    private static void readKeeps() {
        PrefixMill mill = withIn(129, 0x21, 128, 0x00, 4, 0xF0, 0x0D);
        DUE.same("read()", mill.read(), 2);
        DUE.same("at()", mill.at(), 2);
        DUE.same("read() of none", mill.read(), -4);
        DUE.same("at() stays", mill.at(), 2);
        DUE.same("T stays", mill.about(0), 2);
        DUE.same("the codes stay", mill.code(0, 1), 1);
        mill.place(4);
        DUE.same("read() cut off", mill.read(), -1);
        DUE.same("the codes stay", mill.about(1), 3);
        DUE.same("read() leaves OUT", mill.size(), 0);
        DUE.same("read() leaves the counts", mill.lengths(11), -2);
    }

    /** All codes of runs of powers, described and read again. */
    private static void thereAndBack() {
        for (int deep = 1; deep <= 11; deep++) {
            for (int first = 0; first + deep < 256; first += 5) {
                int[] lengths = new int[deep + 1];
                for (int i = 0; i <= deep; i++) {
                    lengths[i] = Math.min(deep - i + 1, deep);
                }
                PrefixMill mill = withLengths(first, lengths);
                int many = mill.describe();
                mill.turn();
                mill.clear();
                DUE.same("just() of nothing", mill.just(), -1);
                mill.turn();
                DUE.same("read() of " + first + " and " + deep, mill.read(), deep);
                DUE.same("at() behind it", mill.at(), many);
                DUE.same("about(1)", mill.about(1), deep + 1);
                for (int i = 0; i <= deep; i++) {
                    DUE.same("code(" + (first + i) + ", 0)", mill.code(first + i, 0), lengths[i]);
                }
            }
        }
    }
}
