import java.util.Arrays;

/** Promises 14 and 15: IN as one stream or as four, and back. */
public final class StreamsTest {
    private static final Due DUE = new Due();

    public static void main(String[] args) {
        encodeRefused();
        encodeOne();
        encodeFour();
        encodeFull();
        encodeElevens();
        decodeRefused();
        decodeOne();
        decodeOneFaults();
        decodeFour();
        decodeFourEnds();
        decodeFourFaults();
        decodeKeeps();
        decodeFull();
        thereAndBack();
        deepThereAndBack();
        DUE.end();
    }

    private static void put(PrefixMill mill, int... bytes) {
        for (int b : bytes) {
            DUE.same("write", mill.write((long) b << 56, 1), true);
        }
    }

    /** Symbol 0 has the code 1, symbol 1 the code 00, symbol 2 the code 01. */
    private static PrefixMill small(int... in) {
        PrefixMill mill = new PrefixMill();
        mill.count(0, 1);
        mill.count(1, 2);
        mill.count(2, 2);
        DUE.same("just()", mill.just(), 2);
        put(mill, in);
        return mill;
    }

    /** Every symbol has 8 bits, and its code is itself. */
    private static PrefixMill eights(int... in) {
        PrefixMill mill = new PrefixMill();
        for (int s = 0; s < 256; s++) {
            mill.count(s, 8);
        }
        DUE.same("just()", mill.just(), 8);
        put(mill, in);
        return mill;
    }

    private static void encodeRefused() {
        PrefixMill mill = new PrefixMill();
        DUE.same("encode(false) without codes", mill.encode(false), -1);
        put(mill, 0);
        DUE.same("encode(true) without codes", mill.encode(true), -1);
        mill = small(0, 0, 3, 0);
        DUE.same("encode(false) of a 3", mill.encode(false), -2);
        DUE.same("encode(true) of a 3", mill.encode(true), -2);
        DUE.same("refused: size()", mill.size(), 0);
        mill.place(3);
        DUE.same("encode(false) behind it", mill.encode(false), 1);
        DUE.out("encode(false) behind it", mill, 3);
        DUE.same("encode(true) of one", mill.encode(true), -3);
        mill.place(2);
        DUE.same("encode(true) of two, one a 3", mill.encode(true), -2);
        DUE.out("refused", mill, 3);
        mill = small();
        for (int n = 0; n <= 30; n++) {
            boolean four = n != 1 && n != 2 && n != 5;
            DUE.same("encode(true) of " + n, mill.encode(true) > 0, four);
            if (!four) {
                DUE.same("encode(true) of " + n, mill.encode(true), -3);
            }
            put(mill, 0);
        }
    }

    private static void encodeOne() {
        PrefixMill mill = small();
        DUE.same("encode(false) of none", mill.encode(false), 1);
        DUE.out("encode(false) of none", mill, 1);
        mill = small(0, 1, 2);
        DUE.same("encode(false) of 0 1 2", mill.encode(false), 1);
        DUE.out("encode(false) of 0 1 2", mill, 0b110001);
        mill.place(1);
        DUE.same("encode(false) of 1 2", mill.encode(false), 1);
        DUE.out("encode(false) of 1 2", mill, 0b10001);
        DUE.same("encode leaves PLACE", mill.at(), 1);
        DUE.same("encode leaves IN", mill.about(2), 4);
        mill = small(2, 2, 2, 0);
        DUE.same("encode(false) of 7 bits", mill.encode(false), 1);
        DUE.out("encode(false) of 7 bits", mill, 0b10101011);
        mill = small(1, 1, 1, 1);
        DUE.same("encode(false) of 8 bits", mill.encode(false), 2);
        DUE.out("encode(false) of 8 bits", mill, 0, 1);
        mill = small(2, 0, 0, 0, 0, 0, 0, 0);
        DUE.same("encode(false) of 9 bits", mill.encode(false), 2);
        DUE.out("encode(false) of 9 bits", mill, 0xFF, 0b10);
    }

    private static void encodeFour() {
        PrefixMill mill = small();
        DUE.same("encode(true) of none", mill.encode(true), 10);
        DUE.out("encode(true) of none", mill, 1, 0, 1, 0, 1, 0, 1, 1, 1, 1);
        mill = small(0, 1, 2);
        DUE.same("encode(true) of 0 1 2", mill.encode(true), 10);
        DUE.out("encode(true) of 0 1 2", mill, 1, 0, 1, 0, 1, 0, 0b11, 0b100, 0b101, 1);
        mill = small(0, 1, 2, 2, 1, 0);
        DUE.same("encode(true) of six", mill.encode(true), 10);
        DUE.out("encode(true) of six", mill, 1, 0, 1, 0, 1, 0, 0b1100, 0b10101, 0b1001, 1);
        mill = small(9, 1, 1, 1, 1, 1, 1, 1, 1, 0, 0, 0, 0, 0);
        mill.place(1);
        DUE.same("encode(true) of 8 and 5", mill.encode(true), 12);
        DUE.out("encode(true) of 8 and 5", mill, 2, 0, 2, 0, 1, 0, 0, 1, 0, 1, 0b11111, 0b11);
    }

    private static void encodeFull() {
        PrefixMill mill = eights(200);
        mill.again(1, 5999);
        DUE.same("encode(false) of 6000 eights", mill.encode(false), -4);
        DUE.same("encode(true) of 6000 eights", mill.encode(true), -4);
        DUE.same("refused: size()", mill.size(), 0);
        mill.place(1);
        DUE.same("encode(false) of 5999 eights", mill.encode(false), 6000);
        DUE.same("its first", mill.byteAt(0), 200);
        DUE.same("its last symbol", mill.byteAt(5998), 200);
        DUE.same("its END", mill.byteAt(5999), 1);
        mill.place(9);
        DUE.same("encode(true) of 5991 eights", mill.encode(true), -4);
        DUE.same("refused: size()", mill.size(), 6000);
        mill.place(10);
        DUE.same("encode(true) of 5990 eights", mill.encode(true), 6000);
        DUE.same("size()", mill.size(), 6000);
        // 1498 symbols and the END: 1499 is 5 * 256 + 219.
        DUE.same("first number, lower", mill.byteAt(0), 219);
        DUE.same("first number, upper", mill.byteAt(1), 5);
        DUE.same("third number, lower", mill.byteAt(4), 219);
        DUE.same("third number, upper", mill.byteAt(5), 5);
        DUE.same("END of the first", mill.byteAt(6 + 1498), 1);
        DUE.same("END of the fourth", mill.byteAt(5999), 1);
    }

    private static void encodeElevens() {
        PrefixMill mill = new PrefixMill();
        for (int s = 0; s < 12; s++) {
            mill.count(s, Math.min(s + 1, 11));
        }
        DUE.same("just()", mill.just(), 11);
        put(mill, 11);
        mill.again(1, 5999);
        DUE.same("encode(false) of 6000 elevens", mill.encode(false), -4);
        DUE.same("encode(true) of 6000 elevens", mill.encode(true), -4);
        // 47992 .. 47999 bits and the END are 6000 bytes: 4363 elevens are 47993.
        mill.place(6000 - 4363);
        DUE.same("encode(false) of 4363 elevens", mill.encode(false), 6000);
        mill.place(6000 - 4364);
        DUE.same("encode(false) of 4364 elevens", mill.encode(false), -4);
        mill.place(6000 - 4363);
        mill.encode(false);
        mill.turn();
        DUE.same("decode(4363, false)", mill.decode(4363, false), 4363);
        DUE.same("decode(4362, false)", mill.decode(4362, false), -4);
        DUE.same("decode(4364, false)", mill.decode(4364, false), -4);
        DUE.same("the first", mill.byteAt(0), 11);
        DUE.same("the last", mill.byteAt(4362), 11);
    }

    private static void decodeRefused() {
        PrefixMill mill = new PrefixMill();
        put(mill, 1, 0, 1, 0, 1, 0, 1, 1, 1, 1);
        DUE.same("decode(0, true) without codes", mill.decode(0, true), -1);
        DUE.same("decode(0, false) without codes", mill.decode(0, false), -1);
        mill = small(1, 0, 1, 0, 1, 0, 1, 1, 1, 1);
        int[] wrong = {-1, 6001, Integer.MIN_VALUE, Integer.MAX_VALUE};
        for (int n : wrong) {
            DUE.same("decode(" + n + ", false)", mill.decode(n, false), -1);
            DUE.same("decode(" + n + ", true)", mill.decode(n, true), -1);
        }
        int[] none = {1, 2, 5};
        for (int n : none) {
            DUE.same("decode(" + n + ", true)", mill.decode(n, true), -1);
        }
        int[] there = {3, 4, 6, 7, 8, 9, 10, 11, 12, 13, 6000};
        for (int n : there) {
            DUE.same("decode(" + n + ", true)", mill.decode(n, true), -4);
        }
        DUE.same("decode(6000, false)", mill.decode(6000, false), -4);
        mill.clear();
        DUE.same("decode(1, true) of none", mill.decode(1, true), -1);
    }

    private static void decodeOne() {
        PrefixMill mill = small(1);
        DUE.same("decode(0, false)", mill.decode(0, false), 0);
        DUE.same("size()", mill.size(), 0);
        mill = small(7, 0b110001);
        mill.place(1);
        DUE.same("decode(3, false)", mill.decode(3, false), 3);
        DUE.out("decode(3, false)", mill, 0, 1, 2);
        DUE.same("decode leaves PLACE", mill.at(), 1);
        DUE.same("decode leaves IN", mill.countAll(), 1);
        mill = small(0, 1);
        DUE.same("decode(4, false)", mill.decode(4, false), 4);
        DUE.out("decode(4, false)", mill, 1, 1, 1, 1);
        mill = small(0xFF, 0b10);
        DUE.same("decode(8, false)", mill.decode(8, false), 8);
        DUE.out("decode(8, false)", mill, 2, 0, 0, 0, 0, 0, 0, 0);
    }

    private static void decodeOneFaults() {
        PrefixMill mill = small();
        DUE.same("decode(0, false) of no byte", mill.decode(0, false), -3);
        DUE.same("decode(3, false) of no byte", mill.decode(3, false), -3);
        put(mill, 0);
        DUE.same("decode(0, false) of a 0", mill.decode(0, false), -3);
        mill = small(0b110001, 0);
        DUE.same("decode(3, false) with a last 0", mill.decode(3, false), -3);
        mill = small(0b110001);
        DUE.same("decode(0, false) of three", mill.decode(0, false), -4);
        DUE.same("decode(2, false) of three", mill.decode(2, false), -4);
        DUE.same("decode(4, false) of three", mill.decode(4, false), -4);
        mill.place(1);
        DUE.same("decode(3, false) at the end", mill.decode(3, false), -3);
        // One bit, a 0, is looked at as 00, which takes two.
        mill = small(0b10);
        DUE.same("decode(1, false) of half a code", mill.decode(1, false), -4);
        DUE.same("decode(0, false) of half a code", mill.decode(0, false), -4);
        mill = small(0b11);
        DUE.same("decode(1, false) of one bit", mill.decode(1, false), 1);
        DUE.out("decode(1, false) of one bit", mill, 0);
        // What is before PLACE is not looked at: bits below the first one are 0.
        mill = small(0xFF, 0b10);
        mill.place(1);
        DUE.same("decode(1, false) behind ones", mill.decode(1, false), -4);
        DUE.out("decode(1, false) behind ones", mill);
    }

    private static void decodeFour() {
        PrefixMill mill = small(1, 0, 1, 0, 1, 0, 1, 1, 1, 1);
        DUE.same("decode(0, true)", mill.decode(0, true), 0);
        DUE.same("size()", mill.size(), 0);
        mill = small(5, 5, 1, 0, 1, 0, 1, 0, 0b1100, 0b10101, 0b1001, 1);
        mill.place(2);
        DUE.same("decode(6, true)", mill.decode(6, true), 6);
        DUE.out("decode(6, true)", mill, 0, 1, 2, 2, 1, 0);
        DUE.same("decode leaves PLACE", mill.at(), 2);
        DUE.same("decode(7, true)", mill.decode(7, true), -4);
        mill = small(2, 0, 2, 0, 1, 0, 0, 1, 0, 1, 0b11111);
        DUE.same("decode(13, true)", mill.decode(13, true), -3);
        mill = small(2, 0, 2, 0, 1, 0, 0, 1, 0, 1, 0b11111, 0b11);
        DUE.same("decode(13, true)", mill.decode(13, true), 13);
        DUE.out("decode(13, true)", mill, 1, 1, 1, 1, 1, 1, 1, 1, 0, 0, 0, 0, 0);
    }

    private static void decodeFourEnds() {
        int[] six = {1, 0, 1, 0, 1, 0};
        for (int n = 0; n < 6; n++) {
            DUE.same("decode(0, true) of " + n, small(Arrays.copyOf(six, n)).decode(0, true), -2);
        }
        DUE.same("decode(0, true) of 6", small(six).decode(0, true), -2);
        DUE.same("decode(0, true) of 7", small(1, 0, 1, 0, 1, 0, 1).decode(0, true), -2);
        DUE.same("decode(0, true) of 8", small(1, 0, 1, 0, 1, 0, 1, 1).decode(0, true), -2);
        // Here the fourth begins where IN ends: it is a stream without a byte.
        DUE.same("decode(0, true) of 9", small(1, 0, 1, 0, 1, 0, 1, 1, 1).decode(0, true), -3);
        DUE.same("decode(0, true) of 10", small(1, 0, 1, 0, 1, 0, 1, 1, 1, 1).decode(0, true), 0);
        DUE.same("upper bytes count", small(1, 1, 1, 0, 1, 0, 1, 1, 1, 1).decode(0, true), -2);
        DUE.same("upper bytes count", small(1, 0, 1, 1, 1, 0, 1, 1, 1, 1).decode(0, true), -2);
        DUE.same("upper bytes count", small(1, 0, 1, 0, 1, 1, 1, 1, 1, 1).decode(0, true), -2);
        DUE.same("the highest bit counts", small(1, 128, 1, 0, 1, 0, 1, 1, 1, 1).decode(0, true), -2);
        DUE.same("the highest bit counts", small(1, 0, 1, 128, 1, 0, 1, 1, 1, 1).decode(0, true), -2);
        DUE.same("the highest bit counts", small(1, 0, 1, 0, 1, 128, 1, 1, 1, 1).decode(0, true), -2);
        DUE.same("the most", small(255, 255, 255, 255, 255, 255, 1, 1, 1, 1).decode(0, true), -2);
        // -2 comes before the faults of streams that are there.
        DUE.same("a 0 and no fourth", small(1, 0, 1, 0, 9, 0, 0, 0, 0, 0).decode(0, true), -2);
        PrefixMill mill = small(1, 0, 1, 0, 1, 0, 1, 1, 1, 1);
        mill.place(5);
        DUE.same("decode(0, true) of 5 from PLACE on", mill.decode(0, true), -2);
        mill.place(10);
        DUE.same("decode(0, true) at the end", mill.decode(0, true), -2);
        // 256 bytes and more in the second stream: 255 of 0 and an END.
        mill = small(1, 0, 1, 1, 1, 0, 1);
        put(mill, 0);
        mill.again(1, 255);
        put(mill, 1, 1, 1);
        DUE.same("257 bytes in the second", mill.decode(0, true), -4);
    }

    private static void decodeFourFaults() {
        // Streams of 1, 1, 1 and 0 symbols; a 1 alone has too few bits, 0b111 too many for one.
        int[][] wrong = {
            {-3, 0, 0b11, 0b11, 1}, {-3, 0b11, 0, 0b11, 1}, {-3, 0b11, 0b11, 0, 1}, {-3, 0b11, 0b11, 0b11, 0},
            {-4, 1, 0b11, 0b11, 1}, {-4, 0b11, 1, 0b11, 1}, {-4, 0b11, 0b11, 1, 1}, {-4, 0b11, 0b11, 0b11, 0b11},
            {-4, 0b111, 0b11, 0b11, 1}, {-4, 0b11, 0b111, 0b11, 1}, {-4, 0b11, 0b11, 0b111, 1},
            {-4, 1, 0, 0, 0}, {-3, 0, 1, 1, 0b11}, {-4, 0b11, 1, 0, 0}, {-3, 0b11, 0, 1, 1},
            {-4, 0b11, 0b11, 1, 0}, {-3, 0b11, 0b11, 0, 0b11}, {3, 0b11, 0b11, 0b11, 1}
        };
        for (int[] one : wrong) {
            PrefixMill mill = small(1, 0, 1, 0, 1, 0, one[1], one[2], one[3], one[4]);
            DUE.same("decode(3, true) of " + Arrays.toString(one), mill.decode(3, true), one[0]);
            DUE.same("size() of " + Arrays.toString(one), mill.size(), one[0] == 3 ? 3 : 0);
        }
        DUE.same("no byte in the first", small(0, 0, 1, 0, 1, 0, 1, 1, 1).decode(0, true), -3);
        DUE.same("no byte in the second", small(1, 0, 0, 0, 1, 0, 1, 1, 1).decode(0, true), -3);
        DUE.same("no byte in the third", small(1, 0, 1, 0, 0, 0, 1, 1, 1).decode(0, true), -3);
        DUE.same("no byte in any", small(0, 0, 0, 0, 0, 0).decode(0, true), -3);
        DUE.same("too many, then no byte", small(1, 0, 0, 0, 1, 0, 3, 1, 1).decode(0, true), -4);
    }

    private static void decodeKeeps() {
        PrefixMill mill = small(0b110001);
        DUE.same("decode(3, false)", mill.decode(3, false), 3);
        DUE.same("decode(2, false)", mill.decode(2, false), -4);
        DUE.out("OUT stays", mill, 0, 1, 2);
        DUE.same("decode(0, true)", mill.decode(0, true), -2);
        DUE.out("OUT stays", mill, 0, 1, 2);
        DUE.same("decode(1, true)", mill.decode(1, true), -1);
        DUE.out("OUT stays", mill, 0, 1, 2);
        mill.clear();
        put(mill, 1, 0, 1, 0, 1, 0, 0b11, 0b11, 0b11, 0b11);
        DUE.same("decode(3, true), the fourth wrong", mill.decode(3, true), -4);
        DUE.out("OUT stays", mill, 0, 1, 2);
        mill.place(10);
        DUE.same("decode(3, false) of no byte", mill.decode(3, false), -3);
        DUE.out("OUT stays", mill, 0, 1, 2);
        mill.place(9);
        DUE.same("decode(1, false)", mill.decode(1, false), 1);
        DUE.out("OUT is new", mill, 0);
    }

    private static void decodeFull() {
        PrefixMill mill = small(0xFF);
        mill.again(1, 749);
        put(mill, 1);
        DUE.same("decode(6000, false)", mill.decode(6000, false), 6000);
        DUE.same("size()", mill.size(), 6000);
        DUE.same("byteAt(5999)", mill.byteAt(5999), 0);
        DUE.same("byteAt(6000)", mill.byteAt(6000), -1);
        DUE.same("decode(5999, false)", mill.decode(5999, false), -4);
        mill.turn();
        DUE.same("turn() of 6000", mill.countAll(), 6000);
        DUE.same("encode(true)", mill.encode(true), 6 + 4 * 188);
        mill.turn();
        DUE.same("decode(6000, true)", mill.decode(6000, true), 6000);
        DUE.same("decode(5999, true)", mill.decode(5999, true), -4);
    }

    private static void thereAndBack() {
        long seed = 1;
        for (int n = 0; n <= 40; n++) {
            for (int most = 3; most <= 11; most++) {
                PrefixMill mill = new PrefixMill();
                int[] text = new int[n];
                for (int i = 0; i < n; i++) {
                    seed = seed * 6364136223846793005L + 1442695040888963407L;
                    text[i] = 250 + Long.numberOfLeadingZeros(seed | 1L << 58);
                }
                put(mill, text);
                for (int s = 250; s < 256; s++) {
                    mill.count(s, 1 << (256 - s));
                }
                DUE.same("lengths(" + most + ")", mill.lengths(most) > 0, true);
                DUE.same("encode(false) of " + n, mill.encode(false), mill.about(2) / 8 + 1);
                mill.turn();
                DUE.same("decode(" + n + ", false)", mill.decode(n, false), n);
                DUE.out("decode(" + n + ", false)", mill, text);
                mill.turn();
                if (mill.encode(true) > 0) {
                    mill.turn();
                    DUE.same("decode(" + n + ", true)", mill.decode(n, true), n);
                    DUE.out("decode(" + n + ", true)", mill, text);
                }
            }
        }
    }

    /** Codes of 1 to 11 bits, so that eleven bits over three bytes are looked at from every bit on. */
    private static void deepThereAndBack() {
        for (int n = 0; n <= 300; n++) {
            PrefixMill mill = new PrefixMill();
            for (int s = 0; s < 12; s++) {
                mill.count(s, Math.min(s + 1, 11));
            }
            DUE.same("just()", mill.just(), 11);
            int[] text = new int[n];
            for (int i = 0; i < n; i++) {
                text[i] = (i * i + n * i / 3) % 12;
            }
            put(mill, text);
            mill.encode(false);
            mill.turn();
            DUE.same("decode(" + n + ", false) of deep codes", mill.decode(n, false), n);
            DUE.out("decode(" + n + ", false) of deep codes", mill, text);
            mill.turn();
            if (mill.encode(true) > 0) {
                mill.turn();
                DUE.same("decode(" + n + ", true) of deep codes", mill.decode(n, true), n);
                DUE.out("decode(" + n + ", true) of deep codes", mill, text);
            }
        }
    }
}
