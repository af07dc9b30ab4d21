/** Boundary cases of promises 14 and 15: IN as one stream or as four, and back. */
final class StreamEdges {
    private static final int LEAST = Integer.MIN_VALUE;
    private static final int MOST = Integer.MAX_VALUE;
    /** The deepest codes: LENGTHS 1 .. 11 and 11. */
    private static final int[] DEEP = {1, 2, 3, 4, 5, 6, 7, 8, 9, 10, 11, 11};

    private StreamEdges() {
    }

    /** Symbol 0 has the CODE 1, symbol 1 the CODE 00, symbol 2 the CODE 01. */
    private static Run small(Due due, int... in) {
        return new Run(due).codes(0, 1, 2, 2).in(in);
    }

    /** Every symbol has eight bits, which are the symbol. */
    private static Run eights(Due due) {
        return new Run(due).counts(0, Bits.many(8, 256)).just(8);
    }

    private static Run deep(Due due, int... in) {
        return new Run(due).codes(0, DEEP).in(in);
    }

    // Promise 14.

    @Edge(promise = 14, says = "-1, refused: no CODES")
    static void encodeWithoutCodes(Due due) {
        new Run(due).encode(false, -1).encode(true, -1).in(0).encode(false, -1).encode(true, -1).size(0);
        new Run(due).counts(0, 1, 12).just(-1).inOf(0, 6000).encode(false, -1).encode(true, -1).size(0);
    }

    @Edge(promise = 14, says = "-2, refused: a symbol has no code")
    static void encodeOfASymbolWithoutCode(Due due) {
        // The first one, one between, the last one; before PLACE it does not count.
        small(due, 3, 0, 0, 0).encode(false, -2).encode(true, -2).place(1, true).encode(false, 1).out(0b1111);
        small(due, 0, 0, 255, 0).encode(false, -2).encode(true, -2).place(3, true).encode(false, 1).out(0b11);
        small(due, 0, 0, 0, 3).encode(false, -2).encode(true, -2).place(4, true).encode(false, 1).out(1);
    }

    @Edge(promise = 14, says = "-2, refused: a symbol has no code")
    static void encodeTellsTheFirstRefusal(Due due) {
        // Five are no four streams, and 6000 of eleven bits are too many bytes; but -2 is told first.
        small(due, 0, 0, 0, 0, 3).encode(true, -2).place(1, true).encode(true, -2);
        deep(due).inOf(11, 5999).in(12).encode(false, -2).encode(true, -2).size(0);
    }

    @Edge(promise = 14, says = "-3, refused: four are not there")
    static void encodeOfTooFewForFour(Due due) {
        int[] wrong = {1, 2, 5};
        for (int n : wrong) {
            small(due, Bits.many(0, n)).encode(false, 1).out((2 << n) - 1).encode(true, -3).out((2 << n) - 1);
        }
        int[] right = {0, 3, 4, 6, 7, 8, 9, 10, 11, 12, 13, 14, 15, 16, 17};
        for (int n : right) {
            small(due, Bits.many(0, n)).encode(true, 10).size(10);
        }
        // What is before PLACE is none of them.
        small(due, Bits.many(0, 8)).place(3, true).encode(true, -3).place(5, true).encode(true, 10)
                .place(6, true).encode(true, -3).place(7, true).encode(true, -3).place(8, true).encode(true, 10);
    }

    @Edge(promise = 14, says = "They are there only when n is 3 * c at least, and none of the three has more than 65535 bytes.")
    static void encodeOfAllThatFourCanBe(Due due) {
        // 2063 bytes each are the most that three streams can have, and these are too many for OUT.
        deep(due).inOf(11, 6000).encode(true, -4).place(6000 - 4358, true).encode(true, 6000).byteAt(0, 0xDB)
                .byteAt(1, 0x05);
        for (int n = 3; n <= 40; n++) {
            boolean there = n >= 3 * ((n + 3) / 4);
            small(due, Bits.many(0, n)).encode(true, there ? 6 + 3 * ((n + 3) / 4 / 8 + 1)
                    + (n - 3 * ((n + 3) / 4)) / 8 + 1 : -3);
        }
    }

    @Edge(promise = 14, says = "-4, refused: more than 6000 bytes.")
    static void encodeUpToFull(Due due) {
        // 5999 bytes and the END are 6000; one more is too many.
        eights(due).inOf(200, 5999).encode(false, 6000).byteAt(0, 200).byteAt(5998, 200).byteAt(5999, 1)
                .in(7).encode(false, -4).size(6000).byteAt(0, 200).place(1, true).encode(false, 6000).byteAt(0, 7);
        // 47999 bits and the END are 48000: the last bit of 6000 bytes; with 48000 it is too many.
        deep(due).inOf(11, 4363).in(5).about(2, 47999).encode(false, 6000).byteAt(5999, 0x80)
                .place(1, true).in(5).about(2, 47994).in(5).about(2, 48000).encode(false, -4).size(6000);
    }

    @Edge(promise = 14, says = "-4, refused: more than 6000 bytes.")
    static void encodeFourUpToFull(Due due) {
        // 6 bytes, 3 * 1499 and 1497; one more symbol in the fourth is too many.
        eights(due).inOf(9, 5991).encode(true, -4).size(0).place(1, true).encode(true, 6000).size(6000)
                .byteAt(0, 0xDB).byteAt(1, 5).byteAt(4, 0xDB).byteAt(5, 5).byteAt(6, 9).byteAt(1504, 1)
                .byteAt(1505, 9).byteAt(5998, 9).byteAt(5999, 1).place(0, true).encode(true, -4).size(6000);
    }

    @Edge(promise = 14, says = "OUT becomes IN from PLACE on as a STREAM, or as FOUR STREAMS: how many bytes.")
    static void encodeFromBothEnds(Due due) {
        small(due, 0, 1, 2).encode(false, 1).out(0b110001).place(2, true).encode(false, 1).out(0b101)
                .place(3, true).encode(false, 1).out(1).encode(true, 10).out(1, 0, 1, 0, 1, 0, 1, 1, 1, 1).at(3);
        // A shorter one behind a longer one.
        small(due, Bits.many(1, 20)).encode(false, 6).size(6).place(19, true).encode(false, 1).out(0b100);
    }

    @Edge(promise = 14, says = "A STREAM of a row of symbols s_0 .. s_(n - 1) (n may be 0)")
    static void encodeOfNothing(Due due) {
        small(due).encode(false, 1).out(1).encode(true, 10).out(1, 0, 1, 0, 1, 0, 1, 1, 1, 1);
        deep(due).encode(false, 1).out(1);
    }

    @Edge(promise = 14, says = "then a 1, the END, and zeros up to the end of a byte.")
    static void encodeOfWholeBytes(Due due) {
        // 6, 7, 8 and 9 bits; 15 and 16.
        small(due, 1, 1, 1).encode(false, 1).out(0x40);
        small(due, 1, 1, 1, 0).encode(false, 1).out(0x81);
        small(due, 1, 1, 1, 1).encode(false, 2).out(0, 1);
        small(due, 1, 1, 1, 1, 0).encode(false, 2).out(1, 2);
        small(due, Bits.many(0, 15)).encode(false, 2).out(0xFF, 0xFF);
        small(due, Bits.many(0, 16)).encode(false, 3).out(0xFF, 0xFF, 1);
    }

    @Edge(promise = 14, says = "BITS of a row of bytes are numbered: bit 8 * i + j is the bit 2^j of byte i.")
    static void encodeOverTheEndOfAByte(Due due) {
        // Seven bits of 1, then 01 over bits 7 and 8, then the END.
        small(due, 2, 0, 0, 0, 0, 0, 0, 0).encode(false, 2).out(0xFF, 0b10);
        small(due, 1, 0, 0, 0, 0, 0, 0, 0).encode(false, 2).out(0x7F, 0b10);
    }

    @Edge(promise = 14, says = "A number of n bits from bit p on has bit p as its lowest.")
    static void encodeOfElevenBits(Due due) {
        // 11 bits, from every bit of a byte on: as many 1 before them.
        deep(due, 11).encode(false, 2).out(0x01, 0x08);
        deep(due, 10).encode(false, 2).out(0x00, 0x08);
        deep(due, 11, 0).encode(false, 2).out(0x03, 0x10);
        deep(due, 11, 0, 0, 0, 0).encode(false, 2).out(0x1F, 0x80);
        deep(due, 11, 0, 0, 0, 0, 0).encode(false, 3).out(0x3F, 0x00, 0x01);
        deep(due, 11, 0, 0, 0, 0, 0, 0, 0).encode(false, 3).out(0xFF, 0x00, 0x04);
        deep(due, 11, 11, 11).encode(false, 5).out(0x01, 0x08, 0x40, 0x00, 0x02);
    }

    @Edge(promise = 14, says = "FOUR STREAMS of n symbols, c being n / 4 rounded up")
    static void encodeOfFourWithAnEmptyFourth(Due due) {
        small(due, 0, 1, 2).encode(true, 10).out(1, 0, 1, 0, 1, 0, 0b11, 0b100, 0b101, 1);
        small(due, 0, 1, 2, 0).encode(true, 10).out(1, 0, 1, 0, 1, 0, 0b11, 0b100, 0b101, 0b11);
        small(due, 0, 1, 2, 0, 1, 2).encode(true, 10).out(1, 0, 1, 0, 1, 0, 0b1100, 0b1011, 0b10001, 1);
    }

    @Edge(promise = 14, says = "then four streams, of c, c, c and n - 3 * c symbols.")
    static void encodeOfFourOfEachRest(Due due) {
        // 7, 8, 9 and 10: 2 2 2 1, 2 2 2 2, 3 3 3 0, 3 3 3 1.
        small(due, Bits.many(0, 7)).encode(true, 10).out(1, 0, 1, 0, 1, 0, 7, 7, 7, 3);
        small(due, Bits.many(0, 8)).encode(true, 10).out(1, 0, 1, 0, 1, 0, 7, 7, 7, 7);
        small(due, Bits.many(0, 9)).encode(true, 10).out(1, 0, 1, 0, 1, 0, 15, 15, 15, 1);
        small(due, Bits.many(0, 10)).encode(true, 10).out(1, 0, 1, 0, 1, 0, 15, 15, 15, 3);
    }

    @Edge(promise = 14, says = "three numbers of two bytes (the lower one first), how many bytes the first, second and third have")
    static void encodeOfNumbersAbove255(Due due) {
        // Streams of 255, 256 and 257 bytes.
        eights(due).inOf(5, 4 * 254).encode(true, 6 + 4 * 255).byteAt(0, 255).byteAt(1, 0).byteAt(4, 255).byteAt(5, 0);
        eights(due).inOf(5, 4 * 255).encode(true, 6 + 4 * 256).byteAt(0, 0).byteAt(1, 1).byteAt(2, 0).byteAt(3, 1);
        eights(due).inOf(5, 4 * 256).encode(true, 6 + 4 * 257).byteAt(0, 1).byteAt(1, 1).byteAt(4, 1).byteAt(5, 1);
        // Each of the three has its own: 1, 2 and 3 bytes.
        deep(due, 0, 0, 10, 0, 10, 10, 0, 0).encode(true, 13)
                .out(1, 0, 2, 0, 3, 0, 0b111, 0x01, 0x10, 0x00, 0x00, 0x40, 0b111);
    }

    // Promise 15.

    @Edge(promise = 15, says = "-1, refused: no CODES")
    static void decodeWithoutCodes(Due due) {
        Run run = new Run(due).decode(0, false, -1).decode(0, true, -1).in(1, 0, 1, 0, 1, 0, 1, 1, 1, 1);
        run.decode(0, false, -1).decode(0, true, -1).decode(3, true, -1).decode(6000, false, -1).decode(-1, false, -1);
    }

    @Edge(promise = 15, says = "n not 0 .. 6000")
    static void decodeOfTooFewOrTooMany(Due due) {
        int[] wrong = {-1, 6001, -4, 6004, 65536, LEAST, LEAST + 1, LEAST + 4, MOST, MOST - 3};
        // There is a stream here for each 0 and for 6000; with others nothing is read.
        Run run = small(due, 0xFF).again(1, 749, true).in(1);
        for (int n : wrong) {
            run.decode(n, false, -1).decode(n, true, -1).size(0);
        }
        run.decode(6000, false, 6000).size(6000).place(750, true).decode(0, false, 0).size(0);
        run.decode(6001, false, -1).decode(-1, false, -1).clear().decode(6001, false, -1).decode(-1, true, -1);
    }

    @Edge(promise = 15, says = "or four are not there")
    static void decodeOfTooFewForFour(Due due) {
        Run run = small(due, 1, 0, 1, 0, 1, 0, 0b11, 0b11, 0b11, 1);
        run.decode(1, true, -1).decode(2, true, -1).decode(5, true, -1).decode(3, true, 3).out(0, 0, 0);
        // They are not looked for in what is there: -1 comes before all other faults.
        run = small(due).decode(1, true, -1).decode(2, true, -1).decode(5, true, -1).decode(0, true, -2);
        run.in(0, 0, 0, 0, 0, 0).decode(5, true, -1).decode(4, true, -3);
    }

    @Edge(promise = 15, says = "-2: IN ends within the three numbers")
    static void decodeOfNumbersCutOff(Due due) {
        int[] numbers = {1, 0, 1, 0, 1, 0};
        for (int n = 0; n < 6; n++) {
            small(due, java.util.Arrays.copyOf(numbers, n)).decode(0, true, -2).decode(3, true, -2).size(0);
            small(due, java.util.Arrays.copyOf(new int[6], n)).decode(0, true, -2);
        }
        // With all six of them, it is the streams that are not there.
        small(due, 0, 0, 0, 0, 0, 0).decode(0, true, -3);
        small(due, 0, 0, 0, 0, 0, 0).place(1, true).decode(0, true, -2).place(6, true).decode(0, true, -2);
    }

    @Edge(promise = 15, says = "or before the fourth stream begins")
    static void decodeOfAFourthThatIsNotReached(Due due) {
        small(due, 1, 0, 1, 0, 1, 0).decode(0, true, -2);
        small(due, 1, 0, 1, 0, 1, 0, 1, 1).decode(0, true, -2);
        // IN ends just where the fourth would begin: that one has no byte.
        small(due, 1, 0, 1, 0, 1, 0, 1, 1, 1).decode(0, true, -3);
        small(due, 1, 0, 1, 0, 1, 0, 1, 1, 1, 1).decode(0, true, 0);
        // One byte more in any of the numbers, and 256 more.
        small(due, 3, 0, 1, 0, 1, 0, 1, 1, 1, 1).decode(0, true, -2);
        small(due, 1, 0, 3, 0, 1, 0, 1, 1, 1, 1).decode(0, true, -2);
        small(due, 1, 0, 1, 0, 3, 0, 1, 1, 1, 1).decode(0, true, -2);
        small(due, 1, 1, 1, 0, 1, 0, 1, 1, 1, 1).decode(0, true, -2);
        small(due, 1, 0, 1, 1, 1, 0, 1, 1, 1, 1).decode(0, true, -2);
        small(due, 1, 0, 1, 0, 1, 1, 1, 1, 1, 1).decode(0, true, -2);
    }

    @Edge(promise = 15, says = "or before the fourth stream begins")
    static void decodeOfTheGreatestNumbers(Due due) {
        // 65535 each, and such whose sum is 0 or 3 in sixteen bits.
        small(due, 255, 255, 255, 255, 255, 255, 1, 1, 1, 1).decode(0, true, -2);
        small(due, 255, 255, 1, 0, 0, 0, 1, 1, 1, 1).decode(0, true, -2);
        small(due, 0, 128, 0, 128, 3, 0, 1, 1, 1, 1).decode(0, true, -2);
        small(due).inOf(255, 6000).decode(0, true, -2).decode(6000, true, -2).size(0);
        // The highest bit of each counts: without it, all would be there.
        small(due, 1, 128, 1, 0, 1, 0, 1, 1, 1, 1).decode(0, true, -2);
        small(due, 1, 0, 1, 128, 1, 0, 1, 1, 1, 1).decode(0, true, -2);
        small(due, 1, 0, 1, 0, 1, 128, 1, 1, 1, 1).decode(0, true, -2);
    }

    @Edge(promise = 15, says = "-3: a stream (the first such one) has no byte")
    static void decodeOfAStreamWithoutAByte(Due due) {
        small(due).decode(0, false, -3).decode(1, false, -3).decode(6000, false, -3).size(0);
        small(due, 1).place(1, true).decode(0, false, -3).place(0, true).decode(0, false, 0);
        small(due, 0, 0, 1, 0, 1, 0, 1, 1, 1).decode(0, true, -3);
        small(due, 1, 0, 0, 0, 1, 0, 1, 1, 1).decode(0, true, -3);
        small(due, 1, 0, 1, 0, 0, 0, 1, 1, 1).decode(0, true, -3);
        small(due, 1, 0, 1, 0, 1, 0, 1, 1, 1).decode(0, true, -3);
    }

    @Edge(promise = 15, says = "or its last one is 0")
    static void decodeOfALastByteOfZero(Due due) {
        small(due, 0).decode(0, false, -3).decode(1, false, -3);
        small(due, 0b110001, 0).decode(3, false, -3).decode(0, false, -3);
        // A 0 that is not the last is no fault: four of 00.
        small(due, 0, 1).decode(4, false, 4).out(1, 1, 1, 1);
        for (int wrong = 0; wrong < 4; wrong++) {
            int[] in = {1, 0, 1, 0, 1, 0, 1, 1, 1, 1};
            in[6 + wrong] = 0;
            small(due, in).decode(0, true, -3).size(0);
        }
    }

    @Edge(promise = 15, says = "-4: a stream (the first such one) has fewer bits, or more, than its symbols")
    static void decodeOfABitTooFewOrTooMany(Due due) {
        // 0, 1 and 2 are 1, 00 and 01: five bits. One less is in the middle of a CODE, one more is a symbol's.
        small(due, 0b110001).decode(3, false, 3).out(0, 1, 2).decode(2, false, -4).decode(4, false, -4).out(0, 1, 2);
        small(due, 0b11000).decode(3, false, -4).decode(2, false, -4).decode(1, false, -4).size(0);
        small(due, 0b1110001).decode(3, false, -4).decode(4, false, 4).out(0, 0, 1, 2);
        small(due, 1).decode(0, false, 0).decode(1, false, -4);
        small(due, 0b10).decode(0, false, -4).decode(1, false, -4);
        small(due, 0b11).decode(0, false, -4).decode(1, false, 1).out(0).decode(2, false, -4);
        small(due, 0xFF).again(1, 749, true).in(1).decode(5999, false, -4).size(0).decode(6000, false, 6000);
        small(due, 0xFF).again(1, 749, true).in(3).decode(6000, false, -4).size(0);
    }

    @Edge(promise = 15, says = "-4: a stream (the first such one) has fewer bits, or more, than its symbols")
    static void decodeOfFourWithABitTooFewOrTooMany(Due due) {
        for (int wrong = 0; wrong < 4; wrong++) {
            // One symbol each: 1 has no bit for it, 0b111 has two.
            int[] in = {1, 0, 1, 0, 1, 0, 3, 3, 3, 3};
            small(due, in).decode(4, true, 4).out(0, 0, 0, 0);
            in[6 + wrong] = 1;
            small(due, in).decode(4, true, -4).size(0);
            in[6 + wrong] = 7;
            small(due, in).decode(4, true, -4).size(0);
        }
        small(due, 1, 0, 1, 0, 1, 0, 3, 3, 3, 3).decode(3, true, -4).decode(6, true, -4).decode(7, true, -4);
        // What is behind the fourth is its own, and what is behind another one is the next one's.
        small(due, 1, 0, 1, 0, 1, 0, 3, 3, 3, 3, 1).decode(4, true, -4);
        small(due, 2, 0, 1, 0, 1, 0, 3, 1, 3, 3, 3).decode(4, true, -4);
    }

    @Edge(promise = 15, says = "(-3 is looked for in a stream before -4 in it, and both before the next stream)")
    static void decodeTellsTheFirstFault(Due due) {
        // One symbol each; 0 is -3, 1 is -4, 3 is right. The first wrong one is what is told.
        for (int i = 0; i < 81; i++) {
            int[] streams = {i / 27 % 3, i / 9 % 3, i / 3 % 3, i % 3};
            int want = 4;
            int[] in = {1, 0, 1, 0, 1, 0, 0, 0, 0, 0};
            for (int k = 3; k >= 0; k--) {
                in[6 + k] = streams[k] == 2 ? 3 : streams[k];
                want = streams[k] == 0 ? -3 : streams[k] == 1 ? -4 : want;
            }
            small(due, in).decode(4, true, want).size(want == 4 ? 4 : 0);
        }
        // In one stream: its last byte is 0, and it has more bits, too.
        small(due, 0xFF, 0).decode(0, false, -3);
        // -2 comes before both.
        small(due, 1, 0, 0, 0, 9, 0, 0, 1, 1, 1).decode(4, true, -2);
    }

    @Edge(promise = 15, says = "OUT becomes the n symbols that are read from IN from PLACE to its end, as a STREAM or as FOUR: n.")
    static void decodeOfNothingAndOfAll(Due due) {
        small(due, 1).encode(false, 1).out(4).decode(0, false, 0).out();
        small(due, 1, 0, 1, 0, 1, 0, 1, 1, 1, 1).encode(false, 3).decode(0, true, 0).out();
        // 6000 symbols as one stream, and as four, of 1500 bits and an END each.
        Run run = small(due, 0xFF).again(1, 749, true).in(1).decode(6000, false, 6000).size(6000).byteAt(0, 0);
        run.byteAt(5999, 0).byteAt(6000, -1).turn().at(0).encode(true, 6 + 4 * 188).byteAt(0, 188).byteAt(6 + 187, 0x1F);
        run.turn().decode(6000, true, 6000).size(6000).byteAt(5999, 0).decode(5999, true, -4).size(6000);
    }

    @Edge(promise = 15, says = "OUT becomes the n symbols that are read from IN from PLACE to its end, as a STREAM or as FOUR: n.")
    static void decodeFromPlaceToTheEnd(Due due) {
        small(due, 0xFF, 0xFF, 0b110001).place(2, true).decode(3, false, 3).out(0, 1, 2).at(2)
                .place(1, true).decode(3, false, -4).decode(11, false, 11).place(3, true).decode(0, false, -3);
        small(due, 9, 1, 0, 1, 0, 1, 0, 3, 3, 3, 3).place(1, true).decode(4, true, 4).out(0, 0, 0, 0).at(1);
    }

    @Edge(promise = 15, says = "Otherwise OUT stays")
    static void decodeFaultsLeaveOut(Due due) {
        Run run = small(due, 0b110001).decode(3, false, 3).out(0, 1, 2);
        run.decode(-1, false, -1).decode(1, true, -1).decode(0, true, -2).decode(2, false, -4).out(0, 1, 2);
        run.place(1, true).decode(3, false, -3).out(0, 1, 2);
        // Three streams are right, and the fourth is not.
        run.clear().in(1, 0, 1, 0, 1, 0, 0b100, 0b100, 0b100, 0).decode(4, true, -3).out(0, 1, 2);
        run.clear().in(1, 0, 1, 0, 1, 0, 0b100, 0b100, 0b100, 1).decode(4, true, -4).out(0, 1, 2);
        run.clear().in(1, 0, 1, 0, 1, 0, 0b100, 0b100, 0b100, 3).decode(4, true, 4).out(1, 1, 1, 0);
    }

    @Edge(promise = 15, says = "The highest 1 of the last byte of a STREAM is its END.")
    static void decodeOfEndsInEveryBit(Due due) {
        for (int bit = 0; bit < 8; bit++) {
            // As many symbols of a bit each as there are bits below the END.
            Run run = small(due, (2 << bit) - 1).decode(bit, false, bit).out(Bits.many(0, bit));
            run.clear().in(0xFF, (2 << bit) - 1).decode(8 + bit, false, 8 + bit).out(Bits.many(0, 8 + bit));
            run.decode(7 + bit, false, -4).decode(9 + bit, false, -4);
        }
        // Of 0x80 the seven zeros are three symbols and a half.
        small(due, 0x80).decode(3, false, -4).decode(4, false, -4).clear().in(0x81).decode(4, false, 4).out(1, 1, 1, 0);
    }

    @Edge(promise = 15, says = "what is looked at are always the T highest bits below what was read (bits below the first one are 0)")
    static void decodeOfFewerBitsThanT(Due due) {
        // T is 11, and a bit is left: 1 is symbol 0, and 0 with ten more zeros, which are not there, is 10.
        deep(due, 0b11).decode(1, false, 1).out(0);
        deep(due, 0b10).decode(1, false, -4);
        deep(due, 0b101).decode(1, false, 1).out(1);
        deep(due, 0b100).decode(1, false, -4);
        // 10, 11 and 12 zeros; eleven bits with a last 1.
        deep(due, 0, 0x04).decode(1, false, -4);
        deep(due, 0, 0x08).decode(1, false, 1).out(10);
        deep(due, 0, 0x10).decode(1, false, -4).decode(2, false, -4);
        deep(due, 1, 0x08).decode(1, false, 1).out(11);
        // Eleven bits over three bytes, from 7 and from 6 on, the highest of which are a 1 and 01.
        deep(due, 0, 0xF8, 0x07).decode(8, false, 8).out(0, 0, 0, 0, 0, 0, 0, 10);
        deep(due, 0, 0xA8, 0x06).decode(5, false, 5).out(0, 1, 1, 1, 10);
        // What is before PLACE, or in the stream before, is not below the first bit.
        deep(due, 0xFF, 0xFF, 0b10).place(2, true).decode(1, false, -4);
        small(due, 1, 0, 1, 0, 1, 0, 3, 2, 3, 3).decode(4, true, -4);
    }

    @Edge(promise = 15, says = "the symbol of that cell is next, and its LENGTH of bits is read.")
    static void decodeOfTheFirstAndTheLastCell(Due due) {
        eights(due).in(0, 255, 1).decode(2, false, 2).out(255, 0).clear().in(128, 127, 1).decode(2, false, 2)
                .out(127, 128);
        deep(due, 0, 0xF8, 0x01).decode(6, false, 6).out(0, 0, 0, 0, 0, 10).decode(5, false, -4).decode(7, false, -4);
    }
}
