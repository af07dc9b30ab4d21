/** Boundary cases of promises 10, 11, 16 and 17: codes by counts and by lengths, and what is said of them. */
final class CodeEdges {
    private static final int LEAST = Integer.MIN_VALUE;
    private static final int MOST = Integer.MAX_VALUE;
    /** The deepest codes: LENGTHS 1 .. 11 and 11. */
    private static final int[] DEEP = {1, 2, 3, 4, 5, 6, 7, 8, 9, 10, 11, 11};

    private CodeEdges() {
    }

    /** 1, 1, 2, 4, 8 ..: so many counts make one LENGTH less. */
    private static int[] powers(int many) {
        int[] counts = new int[many];
        for (int i = 0; i < many; i++) {
            counts[i] = i == 0 ? 1 : 1 << (i - 1);
        }
        return counts;
    }

    // Promise 10.

    @Edge(promise = 10, says = "-1, refused: MOST is not 1 .. 11")
    static void lengthsOfTooSmallOrTooLargeMost(Due due) {
        int[] wrong = {0, 12, -1, 13, 32, 33, 43, 256, LEAST, LEAST + 1, MOST};
        Run run = new Run(due).counts(0, 1, 1);
        for (int most : wrong) {
            run.lengths(most, -1).about(0, -1);
        }
        run.lengths(1, 1).about(0, 1);
        // -1 is told before -2: there are no counts here.
        new Run(due).lengths(0, -1).lengths(12, -1).lengths(1, -2).lengths(11, -2);
    }

    @Edge(promise = 10, says = "-1, refused: MOST is not 1 .. 11")
    static void lengthsOfLeastAndGreatestMost(Due due) {
        new Run(due).counts(0, 1, 65535).lengths(1, 1).lengthsAre(0, 1, 1).lengths(11, 1);
        new Run(due).counts(0, powers(12)).lengths(11, 11).lengthsAre(0, 11, 11, 10, 9, 8, 7, 6, 5, 4, 3, 2, 1);
    }

    @Edge(promise = 10, says = "-2, refused: fewer than two symbols have counts")
    static void lengthsOfTooFewSymbols(Due due) {
        Run run = new Run(due);
        for (int most = 1; most <= 11; most++) {
            run.lengths(most, -2);
        }
        run.count(255, 65535, true);
        for (int most = 1; most <= 11; most++) {
            run.lengths(most, -2);
        }
        run.about(0, -1).count(0, 1, true).lengths(1, 1).count(0, 0, true).lengths(1, -2);
        run.about(0, 1).lengthsAre(0, 1).lengthsAre(255, 1);
    }

    @Edge(promise = 10, says = "or more than 2^most.")
    static void lengthsOfTooManySymbols(Due due) {
        for (int most = 1; most <= 7; most++) {
            int full = 1 << most;
            // All counts the same, and counts that differ as much as they can.
            Run run = new Run(due).counts(0, Bits.many(1, full)).lengths(most, most).about(1, full);
            run.count(255, 1, true).lengths(most, -2).about(1, full).lengthsAre(255, 0);
            run.lengths(most + 1, most + 1).about(1, full + 1);
            run = new Run(due).count(0, 65535, true).counts(1, Bits.many(1, full - 1));
            run.lengths(most, most).about(1, full).count(255, 65535, true).lengths(most, -2).about(1, full);
        }
        Run run = new Run(due).counts(0, Bits.many(65535, 256)).lengths(7, -2).lengths(8, 8).lengths(11, 8);
        run.about(1, 256).lengthsAre(0, 8).lengthsAre(255, 8).count(0, 1, true).lengths(8, 8).lengths(9, 8);
    }

    @Edge(promise = 10, says = "-2, refused: fewer than two symbols have counts, or more than 2^most.")
    static void lengthsRefusedLeavesTheCodes(Due due) {
        Run run = new Run(due).codes(7, 1, 2, 2).lengths(11, -2).lengths(0, -1);
        run.counts(0, 1, 1, 1, 1, 1).lengths(2, -2).about(0, 2).about(1, 3).lengthsAre(6, 0, 1, 2, 2, 0);
        run.code(8, 1, 0).code(9, 1, 1).lengths(3, 3);
    }

    @Edge(promise = 10, says = "CODES become those with LENGTHS BY COUNTS: T (what was counted stays).")
    static void lengthsLeavesTheCounts(Due due) {
        // 1, 1, 1 and 3 are halved for 2, not for 3; the counts themselves are as before.
        Run run = new Run(due).counts(0, 1, 1, 1, 3).lengths(2, 2).lengthsAre(0, 2, 2, 2, 2);
        run.lengths(3, 3).lengthsAre(0, 3, 3, 2, 1).lengths(2, 2);
        new Run(due).counts(0, 3, 3, 1, 2).lengths(2, 2).just(3).lengthsAre(0, 3, 3, 1, 2);
    }

    @Edge(promise = 10, says = "CODES become those with LENGTHS BY COUNTS: T (what was counted stays).")
    static void lengthsForgetsTheCodesBefore(Due due) {
        Run run = new Run(due).counts(0, powers(12)).lengths(11, 11).clear().counts(20, 1, 1).lengths(11, 1);
        run.about(0, 1).about(1, 2).lengthsAre(0, Bits.many(0, 12)).lengthsAre(20, 1, 1);
        // Three of four, one count being 0 now.
        new Run(due).counts(0, 1, 1, 1, 1).lengths(2, 2).count(0, 0, true).lengths(2, 2).about(1, 3)
                .lengthsAre(0, 0, 2, 2, 1);
    }

    @Edge(promise = 10, says = "the symbols with counts above 0 are KNOTS with these counts, in rising order of symbols.")
    static void lengthsOfTheFirstAndTheLastSymbol(Due due) {
        new Run(due).count(255, 1, true).count(0, 1, true).lengths(11, 1).about(1, 2).code(0, 1, 0).code(255, 1, 1);
        // It does not matter in which order they were counted.
        new Run(due).count(255, 5, true).count(3, 5, true).count(0, 5, true).lengths(11, 2)
                .lengthsAre(0, 2).lengthsAre(3, 2).lengthsAre(255, 1);
    }

    @Edge(promise = 10, says = "(of equal ones those that come first in the order)")
    static void lengthsOfEqualCounts(Due due) {
        new Run(due).counts(0, 1, 1, 1).lengths(11, 2).lengthsAre(0, 2, 2, 1);
        new Run(due).counts(253, 65535, 65535, 65535).lengths(11, 2).lengthsAre(253, 2, 2, 1);
        // 1 and the first 2 go; then the second 2 and, of two 3s, the one that is a symbol.
        new Run(due).counts(0, 2, 1, 3, 2).lengths(11, 2).lengthsAre(0, 2, 2, 2, 2);
        // Sums 2 and 2 come; the last 1 goes with the elder, and the other one with their 3.
        new Run(due).counts(0, 1, 1, 1, 1, 1).lengths(11, 3).lengthsAre(0, 3, 3, 2, 2, 2);
    }

    @Edge(promise = 10, says = "and one with the sum of both counts comes, last in the order")
    static void lengthsOfSumsBehindSymbols(Due due) {
        // The sum 2 of 1 and 1 is behind both 2s, which go first, though it came before their sum.
        new Run(due).counts(0, 1, 1, 2, 2).lengths(11, 2).lengthsAre(0, 2, 2, 2, 2);
        new Run(due).counts(0, 2, 1, 1, 2, 8).lengths(11, 3).lengthsAre(0, 3, 3, 3, 3, 1);
        // With 3 for one of them the sum goes with the other: 2, 4, then 3.
        new Run(due).counts(0, 1, 1, 2, 3).lengths(11, 3).lengthsAre(0, 3, 3, 2, 1);
    }

    @Edge(promise = 10, says = "until one is left.")
    static void lengthsOfTwo(Due due) {
        new Run(due).counts(0, 65535, 1).lengths(11, 1).lengthsAre(0, 1, 1);
        new Run(due).counts(0, 1, 65535).lengths(1, 1).lengthsAre(0, 1, 1);
    }

    @Edge(promise = 10, says = "A symbol's LENGTH is how many of these sums it is in.")
    static void lengthsOfSumsAboveAnyCount(Due due) {
        // Sums go on above 65535: 65536 is more than the 65535s, which go together.
        new Run(due).counts(0, 65535, 65535, 65535, 1).lengths(11, 2).lengthsAre(0, 2, 2, 2, 2);
        new Run(due).counts(0, 65535, 32768, 32768, 1).lengths(11, 3).lengthsAre(0, 1, 3, 2, 3);
        new Run(due).counts(0, Bits.many(65535, 5)).lengths(11, 3).lengthsAre(0, 3, 3, 2, 2, 2);
        new Run(due).counts(0, Bits.many(65535, 255)).count(255, 1, true).lengths(11, 8).lengthsAre(0, 8)
                .lengthsAre(254, 8, 8);
    }

    @Edge(promise = 10, says = "When a LENGTH is above MOST")
    static void lengthsJustAtAndAboveMost(Due due) {
        for (int most = 2; most <= 11; most++) {
            // As deep as MOST: nothing is halved.
            int[] own = new int[most + 1];
            for (int i = 0; i <= most; i++) {
                own[i] = Math.min(most + 1 - i, most);
            }
            new Run(due).counts(0, powers(most + 1)).lengths(most, most).lengthsAre(0, own);
        }
        // One deeper: halved once, 1 1 1 2 4 .. 1024, of which the first four have the same LENGTH.
        new Run(due).counts(0, powers(13)).lengths(11, 11)
                .lengthsAre(0, 11, 11, 11, 11, 9, 8, 7, 6, 5, 4, 3, 2, 1);
    }

    @Edge(promise = 10, says = "each count above 0 becomes half of it, rounded up")
    static void lengthsHalvedRoundedUp(Due due) {
        // 1 1 1 3 become 1 1 1 2; cut off, it would be 0 0 0 1.
        new Run(due).counts(0, 1, 1, 1, 3).lengths(2, 2).about(1, 4).lengthsAre(0, 2, 2, 2, 2);
        // 3 3 5 9 27 become 2 2 3 5 14, then 1 1 2 3 7, then 1 1 1 2 4, of which the lengths are at most 3.
        new Run(due).counts(0, 3, 3, 5, 9, 27).lengths(4, 4).lengthsAre(0, 4, 4, 3, 2, 1)
                .lengths(3, 3).lengthsAre(0, 3, 3, 3, 3, 1);
        // Symbols without a count get none.
        new Run(due).counts(0, 0, 1, 0, 1, 1, 65535, 0).lengths(2, 2).lengthsAre(0, 0, 2, 0, 2, 2, 2, 0).about(1, 4);
    }

    @Edge(promise = 10, says = "and all begins anew.")
    static void lengthsHalvedAsOftenAsCanBe(Due due) {
        // 65535 must come down to 2 beside these 1s.
        new Run(due).counts(0, 1, 1, 1, 65535).lengths(2, 2).lengths(3, 3).lengthsAre(0, 3, 3, 2, 1);
        new Run(due).counts(0, 65535, 1, 1, 1, 1, 1, 1, 1).lengths(3, 3).about(1, 8).lengths(4, 4);
        Run run = new Run(due).counts(0, powers(17)).lengths(11, 11).lengths(5, 5).about(1, 17).lengths(4, -2);
        run.count(16, 0, true).lengths(4, 4).lengthsAre(0, Bits.many(4, 16));
    }

    // Promise 11.

    @Edge(promise = 11, says = "CODES become those in which each symbol's LENGTH is its count: T.")
    static void justOfTheLeastAndTheGreatest(Due due) {
        new Run(due).count(0, 1, true).count(255, 1, true).just(1).about(1, 2).lengthsAre(0, 1).lengthsAre(255, 1);
        new Run(due).counts(244, DEEP).just(11).about(1, 12).lengthsAre(244, DEEP);
        new Run(due).counts(0, Bits.many(8, 256)).just(8).about(1, 256).lengthsAre(0, 8).lengthsAre(255, 8);
    }

    @Edge(promise = 11, says = "-1, refused, when a count is above 11")
    static void justOfCountsAboveEleven(Due due) {
        // 1 .. 12 and 12 would be LENGTHS, but for the 12.
        new Run(due).counts(0, 1, 2, 3, 4, 5, 6, 7, 8, 9, 10, 11, 12, 12).just(-1).about(0, -1)
                .count(11, 11, true).count(12, 0, true).just(11);
        // Shifts by 32 are none, and by 33 one: such counts are no 0 and no 1.
        int[] wrong = {12, 13, 31, 32, 33, 34, 63, 64, 65, 256, 257, 32768, 65535};
        Run run = new Run(due).counts(0, 1, 1).just(1);
        for (int c : wrong) {
            run.count(2, c, true).just(-1).count(1, c, true).just(-1).count(2, 0, true).just(-1).count(1, 1, true);
        }
        run.about(0, 1).about(1, 2).lengthsAre(0, 1, 1, 0).just(1);
        // The first symbol and the last are no others.
        for (int c : wrong) {
            run.count(0, c, true).just(-1).count(0, 1, true).count(255, c, true).just(-1).count(255, 0, true);
        }
        run.just(1);
    }

    @Edge(promise = 11, says = "or they are no LENGTHS as told.")
    static void justOfNoneAndOfOne(Due due) {
        new Run(due).just(-1).count(0, 1, true).just(-1).count(0, 11, true).just(-1).about(0, -1);
        new Run(due).count(255, 1, true).just(-1).about(0, -1);
    }

    @Edge(promise = 11, says = "The sum of 2^(T - LENGTH) over all that have codes is 2^T")
    static void justOfTooLittleOrTooMuch(Due due) {
        // Just one cell too few and too many, for T of 2 and of 11.
        new Run(due).counts(0, 2, 2, 2).just(-1).count(3, 2, true).just(2).count(4, 2, true).just(-1).about(1, 4);
        new Run(due).counts(0, 1, 2, 3, 4, 5, 6, 7, 8, 9, 10, 11).just(-1).count(11, 11, true).just(11)
                .count(12, 11, true).just(-1).about(1, 12);
        // Twice and more of what must be, and all there can be.
        new Run(due).counts(0, 1, 1, 1, 1).just(-1);
        new Run(due).counts(0, Bits.many(7, 256)).just(-1).about(0, -1);
        new Run(due).counts(0, Bits.many(1, 256)).just(-1).count(0, 11, true).just(-1).about(0, -1);
        new Run(due).counts(0, Bits.many(9, 256)).just(-1);
        new Run(due).counts(0, Bits.many(8, 255)).just(-1).count(255, 8, true).just(8);
    }

    @Edge(promise = 11, says = "so two at least have length T.")
    static void justOfOneGreatest(Due due) {
        new Run(due).counts(0, 1, 2).just(-1).counts(0, 1, 2, 3).just(-1).count(1, 0, true).just(-1);
        new Run(due).counts(0, 1, 1, 2).just(-1).count(0, 2, true).just(2);
    }

    @Edge(promise = 11, says = "Each symbol has a LENGTH, 0 (it has no code) or 1 .. T")
    static void justWithGaps(Due due) {
        new Run(due).counts(0, 0, 2, 0, 2, 1, 0).just(2).lengthsAre(0, 0, 2, 0, 2, 1, 0).about(1, 3);
        // LENGTHS between need not be there.
        new Run(due).count(0, 1, true).counts(1, Bits.many(7, 64)).just(7).about(1, 65).lengthsAre(0, 1, 7);
    }

    @Edge(promise = 11, says = "T is the greatest, at most 11.")
    static void justForgetsTheCodesBefore(Due due) {
        new Run(due).counts(0, DEEP).just(11).clear().counts(20, 1, 1).just(1).about(0, 1).about(1, 2)
                .lengthsAre(0, Bits.many(0, 12)).lengthsAre(20, 1, 1).in(20).about(2, 1).in(0).about(2, -1);
    }

    @Edge(promise = 11, says = "-1, refused, when a count is above 11 or they are no LENGTHS as told.")
    static void justRefusedLeavesCodesAndCounts(Due due) {
        new Run(due).counts(0, 1, 2, 2).just(2).count(3, 2, true).just(-1).about(0, 2).lengthsAre(0, 1, 2, 2, 0)
                .count(0, 2, true).just(2).lengthsAre(0, 2, 2, 2, 2);
    }

    // Promise 16.

    @Edge(promise = 16, says = "What 0: T")
    static void aboutOfLeastAndGreatestT(Due due) {
        new Run(due).codes(0, 1, 1).about(0, 1);
        new Run(due).codes(0, DEEP).about(0, 11);
    }

    @Edge(promise = 16, says = "1: how many symbols have codes")
    static void aboutOfFewestAndOfAll(Due due) {
        new Run(due).codes(254, 1, 1).about(1, 2);
        new Run(due).counts(0, Bits.many(8, 256)).just(8).about(1, 256);
    }

    @Edge(promise = 16, says = "2: how many bits IN from PLACE on takes by them, without the END")
    static void aboutOfEmptyAndOfFull(Due due) {
        new Run(due).codes(0, 1, 1).about(2, 0).in(1).about(2, 1).place(1, true).about(2, 0);
        // More than sixteen bits tell.
        new Run(due).codes(0, DEEP).inOf(11, 6000).about(2, 66000).place(5999, true).about(2, 11)
                .place(6000, true).about(2, 0);
    }

    @Edge(promise = 16, says = "-1 without CODES")
    static void aboutWithoutCodes(Due due) {
        new Run(due).about(0, -1).about(1, -1).about(2, -1).in(0).about(2, -1).lengths(11, -2).about(0, -1);
    }

    @Edge(promise = 16, says = "when a symbol has none (what 2)")
    static void aboutOfASymbolWithoutCode(Due due) {
        Run run = new Run(due).codes(0, 1, 1).in(2, 0, 1).about(2, -1).about(0, 1).about(1, 2);
        run.place(1, true).about(2, 2).in(255).about(2, -1).place(3, true).about(2, -1).place(4, true).about(2, 0);
    }

    @Edge(promise = 16, says = "or for another what.")
    static void aboutOfAnotherWhat(Due due) {
        int[] wrong = {-1, 3, 4, 256, 258, LEAST, LEAST + 2, MOST};
        Run run = new Run(due).codes(0, 1, 1);
        for (int what : wrong) {
            run.about(what, -1);
        }
        run.about(0, 1).about(1, 2).about(2, 0);
    }

    // Promise 17.

    @Edge(promise = 17, says = "Of a symbol: its LENGTH (what 0), its CODE (1)")
    static void codeOfLeastAndGreatest(Due due) {
        new Run(due).codes(0, 1, 1).code(0, 1, 0).code(1, 1, 1);
        Run run = new Run(due).counts(0, Bits.many(8, 256)).just(8);
        run.code(0, 0, 8).code(0, 1, 0).code(127, 1, 127).code(128, 1, 128).code(255, 1, 255).code(255, 0, 8);
    }

    @Edge(promise = 17, says = "A symbol's CODE are the LENGTH highest of the T bits of each of its cells.")
    static void codeOfDeepestCodes(Due due) {
        // 11 bits: cells 0 and 1; each other one begins at as many cells as it takes: CODE 1.
        Run run = new Run(due).codes(0, DEEP).code(10, 1, 0).code(11, 1, 1);
        for (int symbol = 0; symbol < 10; symbol++) {
            run.code(symbol, 1, 1);
        }
        // 8 symbols of 11 bits have the cells 0 .. 7, and behind them it goes on with 8 bits: cells 8 .. 15.
        run = new Run(due).codes(0, 11, 11, 11, 11, 11, 11, 11, 11, 8, 7, 6, 5, 4, 3, 2, 1);
        run.code(0, 1, 0).code(7, 1, 7).code(8, 1, 1).code(9, 1, 1).code(15, 1, 1);
        // 248 symbols of 11 bits have the cells 0 .. 247.
        run = new Run(due).counts(0, Bits.many(11, 248)).counts(248, 8, 3, 2, 1).just(11);
        run.code(0, 1, 0).code(247, 1, 247).code(248, 1, 31).code(249, 1, 1).code(250, 1, 1).code(251, 1, 1);
    }

    @Edge(promise = 17, says = "all symbols with codes in rising order of their WEIGHTS, those of the same in rising order")
    static void codeInOrder(Due due) {
        new Run(due).codes(0, 3, 2, 3, 2, 2).code(0, 1, 0).code(2, 1, 1).code(1, 1, 1).code(3, 1, 2).code(4, 1, 3);
        new Run(due).codes(250, 1, 2, 3, 0, 3).code(250, 1, 1).code(251, 1, 1).code(252, 1, 0).code(254, 1, 1);
    }

    @Edge(promise = 17, says = "take 2^(WEIGHT - 1) cells each, one behind the other.")
    static void codeByCells(Due due) {
        // Symbols 1 .. 8 of WEIGHT 1 have a cell each, and symbol 0 of WEIGHT 4 the eight behind them.
        Run run = new Run(due).codes(0, 1, 4, 4, 4, 4, 4, 4, 4, 4);
        for (int cell = 0; cell < 16; cell++) {
            // A stream of four bits, the cell; symbol 0 reads but one of them, and three are left.
            run.clear().in(16 | cell);
            run.decode(1, false, cell < 8 ? 1 : -4);
            if (cell < 8) {
                run.out(1 + cell);
            }
        }
        run.clear().in(0b11).decode(1, false, 1).out(0);
    }

    @Edge(promise = 17, says = "-1 when there are no CODES")
    static void codeWithoutCodes(Due due) {
        new Run(due).code(0, 0, -1).code(0, 1, -1).code(255, 0, -1).code(255, 1, -1).count(0, 1, true).code(0, 0, -1);
    }

    @Edge(promise = 17, says = "it has none, or symbol or what is none of these.")
    static void codeOfNoSymbolOrAnotherWhat(Due due) {
        Run run = new Run(due).codes(0, 1, 0, 1);
        int[] none = {1, 3, 255, -1, 256, 258, -254, 65536, LEAST, LEAST + 2, MOST};
        for (int symbol : none) {
            run.code(symbol, 0, -1).code(symbol, 1, -1).code(symbol, 2, -1);
        }
        int[] wrong = {2, -1, 3, 256, 257, LEAST, LEAST + 1, MOST};
        for (int what : wrong) {
            run.code(0, what, -1).code(2, what, -1);
        }
        run.code(0, 0, 1).code(2, 1, 1);
    }
}
