/** Boundary cases of promises 1 to 9, 18 and 19: a new object, IN, PLACE, the counts, and OUT. */
final class RowEdges {
    private static final int LEAST = Integer.MIN_VALUE;
    private static final int MOST = Integer.MAX_VALUE;

    private RowEdges() {
    }

    /** Symbols 0 and 1 have one bit each, which is the symbol. */
    private static Run twoCodes(Due due) {
        return new Run(due).codes(0, 1, 1);
    }

    /** OUT is full: 6000 bytes, the first a 2, the last a 1, the others 0. IN is such that made it. */
    private static Run fullOut(Due due) {
        Run run = new Run(due).counts(0, Bits.many(8, 256)).just(8);
        return run.inOf(0, 5998).in(2).encode(false, 6000).byteAt(0, 2).byteAt(5999, 1);
    }

    // Promise 1.

    @Edge(promise = 1, says = "No codes")
    static void newObjectHasNoCodes(Due due) {
        Run run = new Run(due).about(0, -1).about(1, -1).about(2, -1);
        run.code(0, 0, -1).code(0, 1, -1).code(255, 0, -1).code(255, 1, -1);
        run.describe(-1).encode(false, -1).encode(true, -1).decode(0, false, -1).decode(0, true, -1);
    }

    @Edge(promise = 1, says = "CODES are there or not (at first not).")
    static void codesOfOneObjectAreNotAnothers(Due due) {
        Run one = twoCodes(due).in(0, 1).encode(false, 1);
        new Run(due).about(0, -1).code(0, 0, -1).countAll(0).size(0).at(0).lengths(11, -2);
        one.about(0, 1).about(2, 2).out(0b101);
    }

    @Edge(promise = 1, says = "all counts 0")
    static void newObjectHasNoCounts(Due due) {
        new Run(due).lengths(1, -2).lengths(11, -2).just(-1);
        // One count alone is too few, be it the first or the last: so no other is above 0.
        new Run(due).count(0, 1, true).lengths(11, -2).just(-1);
        new Run(due).count(255, 1, true).lengths(11, -2).just(-1).count(0, 1, true).lengths(11, 1);
    }

    @Edge(promise = 1, says = "IN and OUT are rows of at most 6000 bytes, empty at first")
    static void newRowsAreEmpty(Due due) {
        new Run(due).countAll(0).place(1, false).again(1, 1, false).again(1, 0, false).read(-1);
        new Run(due).size(0).byteAt(0, -1).turn().countAll(0).size(0);
    }

    @Edge(promise = 1, says = "PLACE is where reading in IN goes on, 0 at first.")
    static void newPlaceIsZero(Due due) {
        new Run(due).at(0).place(0, true).at(0);
    }

    // Promise 2.

    @Edge(promise = 2, says = "Appends to IN the n highest bytes of eight, the highest first: true")
    static void writeOfOneAndOfEight(Due due) {
        new Run(due).write(0x8001020304050607L, 1, true).inIs(0x80);
        new Run(due).write(0xFF000000000000FEL, 8, true).inIs(0xFF, 0, 0, 0, 0, 0, 0, 0xFE);
        new Run(due).write(-1L, 8, true).write(0L, 1, true).write(Long.MIN_VALUE, 2, true)
                .inIs(255, 255, 255, 255, 255, 255, 255, 255, 0, 128, 0);
    }

    @Edge(promise = 2, says = "Appends to IN the n highest bytes of eight, the highest first: true")
    static void writeOfEachNumber(Due due) {
        Run run = new Run(due);
        int all = 0;
        for (int n = 1; n <= 8; n++) {
            all += n;
            run.write(0x0102030405060708L, n, true).countAll(all);
        }
        run.place(all - 8, true).inIs(1, 2, 3, 4, 5, 6, 7, 8);
    }

    @Edge(promise = 2, says = "false, refused, when n is not 1 .. 8")
    static void writeOfTooFewOrTooMany(Due due) {
        Run run = new Run(due).write(0x0900000000000000L, 1, true);
        int[] wrong = {0, 9, -1, -8, 10, 64, 257, 65537, LEAST, LEAST + 1, LEAST + 8, MOST};
        for (int n : wrong) {
            run.write(0x0102030405060708L, n, false).countAll(1);
        }
        run.at(0).inIs(9);
    }

    @Edge(promise = 2, says = "or there would be more than 6000")
    static void writeUpToFull(Due due) {
        new Run(due).inOf(1, 5992).write(0, 8, true).countAll(6000).write(0, 1, false).countAll(6000);
        Run run = new Run(due).inOf(1, 5993).write(0, 8, false).countAll(5993);
        run.write(0, 7, true).countAll(6000).write(0, 8, false).write(0, 1, false).countAll(6000);
        new Run(due).inOf(1, 5999).write(0, 2, false).write(0, 1, true).write(0, 1, false).countAll(6000);
    }

    @Edge(promise = 2, says = "or there would be more than 6000")
    static void writeIsRefusedWhole(Due due) {
        // Nothing of what is refused comes, and what is refused does no harm to what is there.
        new Run(due).inOf(1, 5998).write(0x0303030000000000L, 3, false).write(0x0405000000000000L, 2, true)
                .place(5997, true).inIs(1, 4, 5);
    }

    @Edge(promise = 2, says = "or there would be more than 6000")
    static void writeIntoFullFromAnyPlace(Due due) {
        // It counts what IN has, not what is behind PLACE; and room comes again when IN is empty.
        new Run(due).inOf(1, 6000).place(6000, true).write(0, 1, false).at(6000)
                .clear().write(0, 8, true).countAll(8);
    }

    @Edge(promise = 2, says = "An object is used for at most 512 calls after it has been made")
    static void lastOfAllCalls(Due due) {
        Run run = new Run(due);
        for (int i = 0; i < 511; i++) {
            run.write(i, 8, true);
        }
        run.countAll(8 * 511);
    }

    // Promise 3.

    @Edge(promise = 3, says = "Appends to IN n times its last m bytes.")
    static void againOfOneAndOfAll(Due due) {
        new Run(due).in(1, 2, 3).again(1, 1, true).inIs(1, 2, 3, 3);
        new Run(due).in(1, 2, 3).again(3, 1, true).inIs(1, 2, 3, 1, 2, 3);
        new Run(due).in(1, 2, 3).again(2, 3, true).inIs(1, 2, 3, 2, 3, 2, 3, 2, 3);
        new Run(due).in(200).again(1, 4, true).inIs(200, 200, 200, 200, 200);
    }

    @Edge(promise = 3, says = "Appends to IN n times its last m bytes.")
    static void againOfNoTimes(Due due) {
        new Run(due).in(1, 2).again(1, 0, true).again(2, 0, true).at(0).inIs(1, 2);
        new Run(due).inOf(1, 6000).again(1, 0, true).again(6000, 0, true).countAll(6000);
    }

    @Edge(promise = 3, says = "Appends to IN n times its last m bytes.")
    static void againLooksBeforePlace(Due due) {
        new Run(due).in(1, 2, 3).place(3, true).again(3, 1, true).at(3).inIs(1, 2, 3);
    }

    @Edge(promise = 3, says = "False, refused, when m is not 1 .. how many it has")
    static void againOfTooFewOrTooMany(Due due) {
        int[] wrong = {0, 4, -1, 5, 6000, 6001, LEAST, LEAST + 1, MOST};
        Run run = new Run(due).in(1, 2, 3);
        for (int m : wrong) {
            run.again(m, 1, false).again(m, 0, false).countAll(3);
        }
        run.again(3, 1, true).again(7, 0, false).again(6, 0, true).countAll(6);
    }

    @Edge(promise = 3, says = "False, refused, when m is not 1 .. how many it has")
    static void againOfNothing(Due due) {
        new Run(due).again(0, 0, false).again(1, 0, false).again(1, 1, false).again(-1, 0, false).countAll(0);
        new Run(due).in(1).clear().again(1, 1, false).again(1, 0, false).countAll(0);
    }

    @Edge(promise = 3, says = "n is below 0")
    static void againOfLessThanNoTimes(Due due) {
        new Run(due).in(1, 2, 3).again(1, -1, false).again(3, -1, false).again(2, LEAST, false)
                .again(3, LEAST + 1, false).again(LEAST, LEAST, false).countAll(3).inIs(1, 2, 3);
    }

    @Edge(promise = 3, says = "or there would be more than 6000.")
    static void againUpToFull(Due due) {
        new Run(due).in(9).again(1, 6000, false).countAll(1).again(1, 5999, true).countAll(6000)
                .again(1, 1, false).again(6000, 1, false).countAll(6000);
        new Run(due).in(7, 8, 9).again(3, 2000, false).again(3, 1999, true).countAll(6000);
        // 3000 twice are 6000; one more than half can't be doubled, and of a refused call nothing comes.
        new Run(due).inOf(5, 3000).again(3000, 1, true).countAll(6000);
        new Run(due).inOf(5, 3001).again(3001, 1, false).countAll(3001).again(2999, 1, true).countAll(6000);
    }

    @Edge(promise = 3, says = "or there would be more than 6000.")
    static void againOfMoreThanAnIntHolds(Due due) {
        Run run = new Run(due).in(1, 2, 3, 4);
        // As ints these products are -2, 0, 2 and LEAST, and 4 bytes more than MOST are below 0.
        run.again(2, MOST, false).again(4, 1 << 30, false).again(3, 1431655766, false).again(2, 1 << 30, false);
        run.again(1, MOST, false).again(1, MOST - 3, false).again(4, MOST, false).countAll(4);
        new Run(due).inOf(1, 4096).again(4096, 1 << 20, false).again(4096, 1 << 19, false).countAll(4096);
    }

    // Promise 4.

    @Edge(promise = 4, says = "IN becomes OUT, PLACE 0.")
    static void turnOfNothing(Due due) {
        new Run(due).turn().countAll(0).at(0).size(0);
        new Run(due).in(1, 2, 3).place(3, true).turn().at(0).countAll(0).place(1, false).again(1, 1, false).read(-1);
    }

    @Edge(promise = 4, says = "IN becomes OUT, PLACE 0.")
    static void turnOfFull(Due due) {
        Run run = fullOut(due).place(100, true).turn().at(0).countAll(6000).write(0, 1, false);
        run.place(6000, true).place(6001, false).place(5999, true).encode(false, 2).out(1, 1);
    }

    @Edge(promise = 4, says = "IN becomes OUT, PLACE 0.")
    static void turnFromLongToShort(Due due) {
        // What IN had behind the length of OUT is gone, and what comes stands behind OUT's bytes.
        Run run = twoCodes(due).in(0, 1, 0, 0, 0, 0, 0, 0, 0, 0, 0, 0).place(10, true).encode(false, 1).out(4);
        run.turn().at(0).place(2, false).countAll(1).in(7).inIs(4, 7);
    }

    @Edge(promise = 4, says = "IN becomes OUT, PLACE 0.")
    static void turnLeavesOutAndIsNotIt(Due due) {
        Run run = twoCodes(due).describe(2).turn().out(128, 16).turn().countAll(2).out(128, 16);
        run.in(1, 2, 3).out(128, 16).countAll(5).clear().out(128, 16).turn().countAll(2);
        run.in(0).place(2, true).encode(false, 1).out(2).countAll(1).place(0, true).countAll(3);
    }

    @Edge(promise = 4, says = "IN becomes OUT, PLACE 0.")
    static void turnLeavesCodesAndCounts(Due due) {
        new Run(due).counts(3, 1, 1).just(1).turn().about(1, 2).code(4, 1, 1).just(1);
    }

    // Promise 5.

    @Edge(promise = 5, says = "IN is empty, PLACE 0")
    static void clearOfEmptyAndOfFull(Due due) {
        new Run(due).clear().countAll(0).at(0).place(1, false).clear().countAll(0);
        Run run = new Run(due).inOf(9, 6000).place(6000, true).clear().at(0).countAll(0).place(1, false);
        run.again(1, 0, false).read(-1).in(1, 2).inIs(1, 2);
    }

    @Edge(promise = 5, says = "all counts are 0.")
    static void clearOfTheCounts(Due due) {
        new Run(due).counts(0, 65535, 1).count(255, 65535, true).clear().lengths(11, -2).just(-1)
                .count(7, 1, true).lengths(11, -2);
    }

    @Edge(promise = 5, says = "IN is empty, PLACE 0")
    static void clearLeavesCodesAndOut(Due due) {
        twoCodes(due).in(1, 1).encode(false, 1).clear().about(0, 1).code(1, 1, 1).out(7).turn().countAll(1);
    }

    // Promise 6.

    @Edge(promise = 6, says = "PLACE becomes p.")
    static void placeAtBothEnds(Due due) {
        new Run(due).in(1, 2, 3).place(3, true).at(3).countAll(0).place(0, true).at(0).countAll(3)
                .place(2, true).at(2).countAll(1);
        new Run(due).inOf(1, 6000).place(6000, true).at(6000).countAll(0).place(5999, true).countAll(1);
    }

    @Edge(promise = 6, says = "False, refused, when p is not 0 .. the length of IN.")
    static void placeOutside(Due due) {
        int[] wrong = {4, -1, 5, 6000, 6001, 65536, LEAST, LEAST + 1, MOST};
        Run run = new Run(due).in(1, 2, 3).place(2, true);
        for (int p : wrong) {
            run.place(p, false).at(2).countAll(1);
        }
        new Run(due).place(0, true).place(1, false).place(-1, false).at(0);
        new Run(due).inOf(1, 6000).place(6001, false).place(-1, false).at(0);
    }

    @Edge(promise = 6, says = "False, refused, when p is not 0 .. the length of IN.")
    static void placeGoesWithTheLength(Due due) {
        new Run(due).in(1, 2).place(3, false).in(3).place(3, true).place(4, false).again(3, 1, true)
                .place(6, true).place(7, false).clear().place(1, false).place(0, true);
    }

    // Promise 7.

    @Edge(promise = 7, says = "Where PLACE is.")
    static void atStaysWithOtherCalls(Due due) {
        Run run = twoCodes(due).in(0, 1, 0, 1, 1).place(2, true);
        run.in(1).at(2).again(2, 2, true).at(2).count(9, 9, true).at(2).countAll(8).at(2).lengths(11, 1).at(2);
        run.just(-1).at(2).describe(2).at(2).encode(false, 2).at(2).encode(true, 10).at(2);
        run.decode(3, false, -4).at(2).decode(0, true, -2).at(2).about(2, 8).at(2).place(11, false).at(2);
        run.read(-2).at(2).place(10, true).read(-1).at(10).turn().at(0);
    }

    @Edge(promise = 7, says = "Where PLACE is.")
    static void atBehindWhatWasRead(Due due) {
        // A description that ends where IN does, which is full.
        new Run(due).inOf(128, 5998).in(128, 0x10).place(5998, true).read(1).at(6000).read(-1).at(6000);
    }

    // Promise 8.

    @Edge(promise = 8, says = "A symbol's count becomes c.")
    static void countAtTheLimits(Due due) {
        new Run(due).count(0, 65535, true).count(255, 65535, true).count(128, 1, true).lengths(11, 2)
                .lengthsAre(0, 2).lengthsAre(128, 2).lengthsAre(255, 1);
        // It becomes c, it is not added; and 0 takes it away.
        new Run(due).count(0, 1, true).count(0, 1, true).count(1, 1, true).just(1)
                .count(1, 0, true).just(-1).lengths(11, -2).count(1, 1, true).just(1);
    }

    @Edge(promise = 8, says = "False, refused, when symbol is none")
    static void countOfNoSymbol(Due due) {
        Run run = new Run(due).count(7, 1, true);
        int[] wrong = {-1, 256, -256, 257, 263, 65536, LEAST, LEAST + 7, MOST};
        for (int symbol : wrong) {
            run.count(symbol, 1, false).count(symbol, 0, false);
        }
        run.lengths(11, -2).count(8, 1, true).just(1).about(1, 2);
    }

    @Edge(promise = 8, says = "SYMBOLS are 0 .. 255.")
    static void countOfTheFirstAndTheLast(Due due) {
        new Run(due).count(-1, 1, false).count(0, 1, true).count(255, 1, true).count(256, 1, false).just(1)
                .lengthsAre(0, 1, 0).lengthsAre(254, 0, 1);
    }

    @Edge(promise = 8, says = "or c not 0 .. 65535.")
    static void countTooSmallOrTooLarge(Due due) {
        Run run = new Run(due).counts(0, 1, 2, 2);
        int[] wrong = {-1, 65536, -65535, 65537, 131072, LEAST, LEAST + 1, MOST};
        for (int c : wrong) {
            run.count(0, c, false).count(255, c, false);
        }
        run.just(2).lengthsAre(0, 1, 2, 2);
        run.count(256, -1, false).count(-1, 65536, false).just(2);
    }

    // Promise 9.

    @Edge(promise = 9, says = "The counts become how often each symbol stands in IN from PLACE on")
    static void countAllFromPlaceOn(Due due) {
        // 1 once, 2 and 255 twice: lengths, if 9, which is before PLACE, and 7, which was counted, have none.
        new Run(due).count(7, 1, true).in(9, 9, 2, 255, 1, 255, 2).place(2, true).countAll(5).just(2)
                .lengthsAre(1, 1, 2).lengthsAre(255, 2).about(1, 3);
        // All of it, and the last byte alone.
        new Run(due).in(0, 255).countAll(2).just(1).place(1, true).countAll(1).just(-1).count(0, 1, true).just(1);
    }

    @Edge(promise = 9, says = "how many bytes that are.")
    static void countAllOfNoneAndOfFull(Due due) {
        new Run(due).counts(0, 1, 1).countAll(0).just(-1).lengths(11, -2);
        new Run(due).in(0, 1).counts(0, 1, 1).place(2, true).countAll(0).just(-1).lengths(11, -2);
        // 5998 of one symbol are more than 2 of the two others, which are less than 5999.
        new Run(due).inOf(9, 5998).in(1, 2).countAll(6000).lengths(11, 2).lengthsAre(9, 1).count(5, 5999, true)
                .lengths(11, 3).lengthsAre(9, 2).lengthsAre(5, 1);
    }

    // Promise 18.

    @Edge(promise = 18, says = "How many bytes OUT has.")
    static void sizeOfEmptyAndOfFull(Due due) {
        new Run(due).size(0).in(1, 2, 3).size(0);
        fullOut(due).size(6000);
        // A row of no symbols is an OUT without a byte.
        twoCodes(due).in(1).describe(2).size(2).decode(0, false, 0).size(0).byteAt(0, -1).turn().countAll(0);
    }

    @Edge(promise = 18, says = "How many bytes OUT has.")
    static void sizeStaysWhenRefused(Due due) {
        Run run = twoCodes(due).in(0, 1, 0).describe(2).size(2).in(2).encode(false, -2).size(2);
        run.place(2, true).encode(true, -2).decode(1, false, -4).decode(7000, false, -1).read(-2).size(2);
        fullOut(due).in(1).encode(false, -4).encode(true, -4).size(6000);
    }

    // Promise 19.

    @Edge(promise = 19, says = "Byte k of OUT, from 0, 0 .. 255")
    static void byteAtOfTheGreatest(Due due) {
        // A byte of 255 is no -1.
        new Run(due).counts(0, Bits.many(8, 256)).just(8).in(0, 127, 128, 255).encode(false, 5)
                .out(255, 128, 127, 0, 1);
    }

    @Edge(promise = 19, says = "-1 when there is none.")
    static void byteAtOutside(Due due) {
        Run run = twoCodes(due).in(1, 1, 1, 1, 1, 1, 1, 1).encode(false, 2);
        int[] wrong = {-1, 2, 3, 6000, 65536, LEAST, LEAST + 1, MOST};
        for (int k : wrong) {
            run.byteAt(k, -1);
        }
        run.out(255, 1).place(8, true).encode(false, 1).byteAt(0, 1).byteAt(1, -1);
        fullOut(due).byteAt(5999, 1).byteAt(6000, -1).byteAt(-1, -1).byteAt(LEAST, -1).byteAt(MOST, -1);
    }
}
