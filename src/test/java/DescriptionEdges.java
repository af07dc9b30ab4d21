import java.util.ArrayList;
import java.util.List;

/** Boundary cases of promises 12 and 13: the description, written and read, with its shares and rows. */
final class DescriptionEdges {
    /** A share of ORDER 5: 30 points of 0, and 2 of 1, whose places are 9 and 18. */
    private static final String FIVE = "0:4 31:6 3:2";
    /** A share of ORDER 6: 62 points of 0, and 2 of 1, whose places are 21 and 42. */
    private static final String SIX = "1:4 63:7 3:2";
    /** WEIGHTS of the deepest codes, but for a last 1. */
    private static final int[] DEEP = {11, 10, 9, 8, 7, 6, 5, 4, 3, 2, 1};

    private DescriptionEdges() {
    }

    /** As many WEIGHTS of 0, 1, .. as is told, in rising order. */
    private static int[] rising(int... counts) {
        int[] all = new int[0];
        for (int v = 0; v < counts.length; v++) {
            all = Bits.joined(all, Bits.many(v, counts[v]));
        }
        return all;
    }

    /** The LENGTHS of symbols with these WEIGHTS, and of the next one, which completes them. */
    private static int[] lengths(int... weights) {
        int sum = 0;
        for (int v : weights) {
            sum += v > 0 ? 1 << (v - 1) : 0;
        }
        int t = 32 - Integer.numberOfLeadingZeros(sum);
        int next = 1 + Integer.numberOfTrailingZeros((1 << t) - sum);
        int[] lengths = Bits.joined(weights, new int[] {next});
        for (int i = 0; i < lengths.length; i++) {
            lengths[i] = lengths[i] == 0 ? 0 : t + 1 - lengths[i];
        }
        return lengths;
    }

    private static int greatest(int... numbers) {
        return java.util.Arrays.stream(numbers).max().getAsInt();
    }

    private static Run withLengths(Due due, int... lengths) {
        return new Run(due).counts(0, lengths).just(greatest(lengths));
    }

    /** Codes with these WEIGHTS have this description, and are read from it again. */
    private static void describes(Due due, int[] weights, int... description) {
        int[] lengths = lengths(weights);
        Run run = withLengths(due, lengths).describe(description.length).out(description);
        // Other codes, so that it can be seen what is read.
        run.clear().counts(254, 1, 1).just(1).turn().read(greatest(lengths)).at(description.length);
        run.lengthsAre(0, lengths.length > 150 ? new int[0] : lengths).code(lengths.length, 0, -1);
    }

    private static void describesByStates(Due due, int[] weights, String share, int... row) {
        describes(due, weights, Bits.described(Bits.of(share), row));
    }

    /** Reading this gives these codes, and PLACE is behind it. */
    private static void reads(Due due, int[] description, int... lengths) {
        Run run = new Run(due).in(description).in(0xFF).read(greatest(lengths)).at(description.length);
        run.lengthsAre(0, lengths).code(lengths.length, 0, -1);
    }

    /** Reading this is a fault, and CODES and PLACE stay, be there codes or not. */
    private static void faults(Due due, int number, int... description) {
        new Run(due).in(description).read(-number).at(0).about(0, -1);
        Run run = new Run(due).codes(7, 1, 2, 2).in(77).in(description).place(1, true).read(-number).at(1);
        run.about(0, 2).about(1, 3).lengthsAre(7, 1, 2, 2).size(0);
    }

    /** The document's row of places of which each takes all bits of a state, read from the first on. */
    private static int[] rowOf(int order, int... states) {
        StringBuilder bits = new StringBuilder();
        for (int i = states.length - 1; i >= 0; i--) {
            bits.append(states[i]).append(':').append(order).append(' ');
        }
        return Bits.of(bits + "1:1");
    }

    private static int[] rowOfMany(int weights, int order) {
        List<Integer> all = new ArrayList<>();
        for (int i = 0; i < weights; i++) {
            all.add(i == 100 ? 1 : 0);
        }
        List<Integer> bytes = PlainMill.states(all, order);
        bytes.add(0, bytes.size());
        return bytes.stream().mapToInt(b -> b).toArray();
    }

    // Promise 12.

    @Edge(promise = 12, says = "-1, refused: there are no CODES")
    static void describeWithoutCodes(Due due) {
        new Run(due).describe(-1).size(0).counts(0, 1, 1).in(128, 0x10).describe(-1).size(0);
        new Run(due).in(128, 0).read(-4).describe(-1).count(0, 12, true).just(-1).describe(-1).lengths(1, -2).describe(-1);
    }

    @Edge(promise = 12, says = "-2, refused: it can be written in neither way.")
    static void describeInNeitherWay(Due due) {
        // More than 128 WEIGHTS, all the same, whatever the last symbol has.
        int[][] neither = {{255, 8}, {254, 7}, {252, 6}, {248, 5}, {240, 4}, {224, 3}, {192, 2}};
        for (int[] one : neither) {
            Run run = new Run(due).codes(0, 1, 1).describe(2).counts(0, Bits.many(8, one[0])).count(one[0], one[1], true);
            run.just(8).describe(-2).out(128, 0x10).at(0).about(1, one[0] + 1);
        }
    }

    @Edge(promise = 12, says = "with at least two weights that are not the same")
    static void describeOfOneWeightThatDiffers(Due due) {
        // As above, but one of 254 WEIGHTS is a 2, be it the first or the last; by hand: 1 has the places
        // 0 .. 30, of which 0 alone takes a bit, so that a state goes around in 31 steps and writes one.
        int[] ones = Bits.many(1, 253);
        int[] two = {2};
        String share = "0:4 1:5 0:2 62:6 0:1";
        describesByStates(due, Bits.joined(two, ones), share, Bits.of("0:8 1:5 2:5 31:5 1:1"));
        describesByStates(due, Bits.joined(ones, two), share, Bits.of("1:1 0:8 1:5 2:5 1:1"));
    }

    @Edge(promise = 12, says = "in which k is the highest symbol that has a code.")
    static void describeOfTheLowestAndTheHighest(Due due) {
        // k is 1 at least, and 255 at most.
        describes(due, new int[] {1}, 128, 0x10);
        describesByStates(due, rising(254, 1), "0:4 62:6 0:1", 0x01, 0x84, 0x08);
    }

    @Edge(promise = 12, says = "A symbol's WEIGHT is T + 1 - LENGTH, 0 without a code.")
    static void describeOfTheGreatestWeight(Due due) {
        describes(due, DEEP, 138, 0xBA, 0x98, 0x76, 0x54, 0x32, 0x10);
        describes(due, new int[] {1, 1, 2, 3, 4, 5, 6, 7, 8, 9, 10}, 138, 0x11, 0x23, 0x45, 0x67, 0x89, 0xA0);
        describes(due, new int[] {0, 0, 0, 1}, 131, 0x00, 0x01);
    }

    @Edge(promise = 12, says = "DIRECT (k at most 128)")
    static void describeDirectOf128(Due due) {
        describes(due, Bits.many(1, 128), Bits.joined(new int[] {255}, Bits.many(0x11, 64)));
        // From 129 on there is BY STATES alone, and 128 may be written so, too, if that is shorter.
        describesByStates(due, rising(127, 1), "0:4 62:6 0:1", 0x01, 0x84);
        describesByStates(due, rising(128, 1), "0:4 62:6 0:1", 0x21, 0x84);
    }

    @Edge(promise = 12, says = "the last four 0 when k is odd.")
    static void describeDirectOfOddAndEven(Due due) {
        describes(due, new int[] {2, 1}, 129, 0x21);
        describes(due, new int[] {1, 1, 1}, 130, 0x11, 0x10);
        describes(due, new int[] {1, 1, 1, 1}, 131, 0x11, 0x11);
        // Behind a description that had something there.
        withLengths(due, 3, 3, 3, 3, 1).describe(3).out(131, 0x11, 0x11).count(4, 0, true).counts(0, 2, 2, 2, 2)
                .just(2).describe(3).out(130, 0x11, 0x10);
    }

    @Edge(promise = 12, says = "It is written DIRECT when that is not longer than BY STATES")
    static void describeWhenBothAreAsLong(Due due) {
        // BY STATES takes 5 bytes for each; DIRECT 5 for 8 weights, 6 for 9.
        describes(due, rising(7, 1), 135, 0, 0, 0, 1);
        describesByStates(due, rising(8, 1), "0:4 29:5 7:3", 0xF1, 0x07);
    }

    @Edge(promise = 12, says = "in that way that there is, if there is but one.")
    static void describeInTheOnlyWay(Due due) {
        // DIRECT alone, k being below 2 or all WEIGHTS the same; BY STATES alone, k being above 128.
        describes(due, new int[] {1}, 128, 0x10);
        describes(due, Bits.many(1, 16), 143, 0x11, 0x11, 0x11, 0x11, 0x11, 0x11, 0x11, 0x11);
        describesByStates(due, rising(0, 128, 0, 0, 0, 0, 0, 0, 0, 1),
                "0:4 1:5 0:2 62:6 1:2 3:2 3:2 0:2 0:1", 0x21, 0x84);
    }

    @Edge(promise = 12, says = "how many bytes follow, a share of the weights by their counts, a row of them in two states")
    static void describeByStatesOfFewestBytes(Due due) {
        // Two bytes of a share and two of a row: fewer there can't be, 12 bits at least and 11.
        describesByStates(due, rising(6, 2, 1), "0:4 22:5 11:4 7:3", 0x9C, 0x9B);
        describesByStates(due, rising(20, 1), FIVE, 0xF3, 0x09);
    }

    @Edge(promise = 12, says = "of the ORDERS 5 and 6 the one with fewer bytes, 5 when both have as many.")
    static void describeByTheOrderOfFewerBytes(Due due) {
        // 12 bytes for 5 and 11 for 6; 10 and 11; 4 and 4.
        describesByStates(due, rising(17, 16, 5, 1), "1:4 29:6 27:6 13:4 3:2",
                0x15, 0xC9, 0x30, 0x0F, 0xCF, 0xFC, 0x3F, 0x8E);
        describesByStates(due, rising(10, 10, 10), "0:4 12:5 12:5 15:4", 0x7C, 0x15, 0x75, 0xAD, 0x00, 0xA0, 0x54);
        describesByStates(due, rising(9, 1), "0:4 30:6 7:3", 0xDC, 0x05);
    }

    @Edge(promise = 12, says = "u below m takes as many bits as t - 1 has")
    static void describeOfPointsAroundM(Due due) {
        // R is 32: t 32, m 30. 28 points are u 29, the greatest of 5 bits; 29 are u 30, the least of 6.
        describesByStates(due, rising(28, 4), "0:4 29:5 7:3", 0xE4, 0x73, 0x1E);
        describesByStates(due, rising(29, 3), "0:4 30:6 7:3", 0xC9, 0x8A, 0x02);
    }

    @Edge(promise = 12, says = "u itself if it is below t, else u + m.")
    static void describeOfPointsAroundT(Due due) {
        // 30 points are u 31, below t; 31 are u 32, written as 62.
        describesByStates(due, rising(30, 2), "0:4 31:6 3:2", 0x63, 0x1C);
        describesByStates(due, rising(31, 1), "0:4 62:6 3:2", 0x87, 0x0D);
    }

    @Edge(promise = 12, says = "3 as long as three do and it goes on, at last 0 .. 2.")
    static void describeOfGaps(Due due) {
        // Behind a first WEIGHT that has none come 0, 1, 2, 3, 4, 5 and 6 more.
        describesByStates(due, rising(20, 3, 0, 1), "0:4 28:5 6:3 1:2 0:2 3:2", 0x21, 0x07, 0x35);
        describesByStates(due, rising(20, 7, 0, 0, 1), "0:4 24:5 14:4 1:2 1:2 3:2", 0x11, 0x65, 0x73, 0x29, 0x01);
        describesByStates(due, rising(0, 15, 0, 0, 0, 1), "0:4 1:5 0:2 31:6 1:2 2:2 3:2", 0x43, 0x0C);
        describesByStates(due, rising(0, 31, 0, 0, 0, 0, 1), "0:4 1:5 0:2 62:6 1:2 3:2 0:2 3:2", 0x87, 0x0D);
        describesByStates(due, rising(0, 63, 0, 0, 0, 0, 0, 1), "0:4 1:5 0:2 62:6 1:2 3:2 1:2 0:1", 0x79, 0x10);
        describesByStates(due, rising(0, 127, 0, 0, 0, 0, 0, 0, 1), "0:4 1:5 0:2 62:6 1:2 3:2 2:2 0:1", 0x01, 0x84);
        describesByStates(due, rising(0, 128, 0, 0, 0, 0, 0, 0, 0, 1),
                "0:4 1:5 0:2 62:6 1:2 3:2 3:2 0:2 0:1", 0x21, 0x84);
    }

    @Edge(promise = 12, says = "A SHARE of ORDER L (5, 6) tells POINTS for each WEIGHT 0 .. 11 (here called v)")
    static void describeOfPointsUpToEleven(Due due) {
        // 9 has -1 and 11, too, the last that there is; 0 and 10 have none.
        describesByStates(due, rising(0, 128, 0, 0, 0, 0, 0, 0, 0, 3, 0, 1),
                "0:4 1:5 0:2 31:6 1:2 3:2 3:2 0:2 0:2 1:2 0:2 0:1", 0xFE, 0x3F, 0x60, 0x4C);
    }

    @Edge(promise = 12, says = "Zeros up to the end of a byte follow.")
    static void describeOfASharesWholeBytes(Due due) {
        // 16 bits of a share: no zeros, and no byte of them; 12 bits: four zeros.
        describesByStates(due, rising(6, 2, 1), "0:4 22:5 11:4 7:3", 0x9C, 0x9B);
        describesByStates(due, rising(31, 1), "0:4 62:6 3:2 0:4", 0x87, 0x0D);
    }

    @Edge(promise = 12, says = "a v with c = 0 has 0 points")
    static void describeOfNoneAndOfAll(Due due) {
        // No 0 at all, and nothing but 0 and one 1.
        describesByStates(due, rising(0, 10, 0, 1), "0:4 1:5 0:2 30:6 1:2 0:2 7:3", 0x5C, 0x08);
        describesByStates(due, rising(254, 1), "0:4 62:6 0:1", 0x01, 0x84, 0x08);
    }

    @Edge(promise = 12, says = "if c * 2^L is below N, -1")
    static void describeOfOnePointAndOfMinusOne(Due due) {
        // 1 * 32 of 32 is a point; of 33 it is below.
        describesByStates(due, rising(31, 1), "0:4 62:6 3:2", 0x87, 0x0D);
        describesByStates(due, rising(32, 1), "0:4 62:6 0:1", 0xDF, 0x0B);
    }

    @Edge(promise = 12, says = "otherwise c * 2^L / N, cut.")
    static void describeOfWholePointsAndOfCutOnes(Due due) {
        // 28 and 4 of 32 are 28 and 4 points; 9 and 1 of 10 are 28 and 3 with 8 and 2 tenths, and one lacks.
        describesByStates(due, rising(28, 4), "0:4 29:5 7:3", 0xE4, 0x73, 0x1E);
        describesByStates(due, rising(9, 1), "0:4 30:6 7:3", 0xDC, 0x05);
    }

    @Edge(promise = 12, says = "in the order of what was cut off (the greatest first, of the same the lower v first)")
    static void describeWhenPointsLack(Due due) {
        // 9, 11, 1 and 9, of which 7, 5, 15 and 7 of 17 were cut off: 2 gets one, then 0.
        describesByStates(due, rising(5, 6, 1, 5), "0:4 11:5 12:5 3:4 15:4", 0x00, 0x19, 0x97, 0x0E, 0x33);
        // 10 each, with the same cut off: the lower two get one.
        describesByStates(due, rising(10, 10, 10), "0:4 12:5 12:5 15:4", 0x7C, 0x15, 0x75, 0xAD, 0x00, 0xA0, 0x54);
        // 28 and 3: the higher one gets it, and 30 and 1: so it does here.
        describesByStates(due, rising(8, 1), "0:4 29:5 7:3", 0xF1, 0x07);
    }

    @Edge(promise = 12, says = "If they are too much, one point is taken from the v with the most points (of the same the lowest)")
    static void describeWhenPointsAreTooMuch(Due due) {
        // 28 and five of -1 are one too much.
        describesByStates(due, rising(35, 1, 1, 1, 1, 1), "0:4 28:5 0:2 0:2 0:2 0:2 0:1", 0x9B, 0x77, 0x01, 0x50, 0x02);
        // 14 and 16 and four of -1 are two too much: 15, then 14.
        describesByStates(due, rising(28, 32, 1, 1, 1, 1), "0:4 15:5 15:5 0:2 0:2 0:2 0:1",
                0xBC, 0x3B, 0xFF, 0x3A, 0xBF, 0xCE, 0x03, 0x30, 0xF0, 0x05, 0xA5, 0x04);
        // 14 and 14 and five of -1 are one too much: the lower one has 13.
        describesByStates(due, rising(18, 18, 1, 1, 1, 0, 0, 1, 1), "0:4 14:5 15:5 0:2 0:2 0:2 1:2 1:2 0:2 0:1",
                0x9B, 0x77, 0xE7, 0xBF, 0xE6, 0xE1, 0x19, 0x28, 0x25);
    }

    @Edge(promise = 12, says = "A is the lowest place of v_(k - 1), and B that of v_(k - 2), of those that take bits.")
    static void describeOfTheLastTwoWeights(Due due) {
        // Each of the last two may be a 0 or a 1, and k odd or even: 20 or 21 of 0, a 1, and these two.
        int[] odd = Bits.joined(Bits.many(0, 20), new int[] {1});
        int[] even = Bits.joined(Bits.many(0, 21), new int[] {1});
        describesByStates(due, Bits.joined(odd, new int[] {0, 1}), "0:4 30:6 7:3", 0x09, 0x2A, 0x01);
        describesByStates(due, Bits.joined(even, new int[] {0, 1}), "0:4 30:6 7:3", 0x49, 0x61, 0x01);
        describesByStates(due, Bits.joined(odd, new int[] {1, 0}), "0:4 30:6 7:3", 0x88, 0xFE);
        describesByStates(due, Bits.joined(even, new int[] {1, 0}), "0:4 30:6 7:3", 0xE8, 0xE7);
        describesByStates(due, Bits.joined(odd, new int[] {0, 0}), "0:4 62:6 3:2", 0x80, 0xF5);
        describesByStates(due, Bits.joined(even, new int[] {0, 0}), "0:4 62:6 3:2", 0xA0, 0xBB);
        describesByStates(due, Bits.joined(odd, new int[] {1, 1}), "0:4 29:5 7:3", 0x7C, 0x21, 0x02);
        describesByStates(due, Bits.joined(even, new int[] {1, 1}), "0:4 29:5 7:3", 0x7C, 0x71, 0x02);
    }

    @Edge(promise = 12, says = "For v_(k - 3), .. v_0, A and B by turns, A first")
    static void describeByTurns(Due due) {
        // By hand. A: 9 12 15 19 23 27 31 1 3 5 7, B: 0 2 4 6 8 11 14 17 21 25; at 31 A writes a 1.
        describesByStates(due, rising(20, 1), FIVE, Bits.of("1:1 25:5 7:5 1:1"));
        // A: 9 11 13 15 17 19 21 23 25 27 29 31 0 1 2 3, B: 0 1 2 3 4 5 6 7 8 10 12 14 16 18 20 22.
        describesByStates(due, rising(31, 1), "0:4 62:6 3:2", Bits.of("1:1 3:5 22:5 1:1"));
    }

    @Edge(promise = 12, says = "the state is within BASE .. BASE + 2^b - 1 of just one place of that v")
    static void describeOfStatesAtBothBounds(Due due) {
        // Place 0 has the BASE 30 and a bit: from 31 on A comes to it first, and later from 30, as B does.
        describesByStates(due, Bits.joined(Bits.many(1, 253), new int[] {2}), "0:4 1:5 0:2 62:6 0:1",
                Bits.of("1:1 0:4 0:4 1:5 2:5 1:1"));
    }

    @Edge(promise = 12, says = "it is written, less that BASE, in b bits, and the state is that place.")
    static void describeOfNoBitsAndOfAll(Due due) {
        // The place of -1 takes all five bits, with the state as it is; 1 .. 30 of 0 take none.
        describesByStates(due, rising(32, 1), "0:4 62:6 0:1", Bits.of("1:1 15:5 15:5 1:1"));
        describesByStates(due, Bits.joined(new int[] {2}, Bits.many(1, 253)), "0:4 1:5 0:2 62:6 0:1",
                Bits.of("0:4 0:4 1:5 2:5 31:5 1:1"));
    }

    @Edge(promise = 12, says = "that of v_0 in L bits, a 1 (the END), and zeros up to the end of a byte.")
    static void describeOfRowsWholeBytes(Due due) {
        // The END as the highest bit of a byte, and as the lowest.
        describesByStates(due, rising(6, 2, 1), "0:4 22:5 11:4 7:3", 0x9C, 0x9B);
        describesByStates(due, rising(8, 2, 1), "0:4 24:5 7:4 7:3", 0x29, 0x80, 0x01);
        describesByStates(due, rising(127, 1), "0:4 62:6 0:1", 0x01, 0x84);
    }

    @Edge(promise = 12, says = "OUT becomes the DESCRIPTION: how many bytes.")
    static void describeOnceMoreAndShorter(Due due) {
        // The same again; a shorter one behind a longer one; by states behind direct.
        Run run = withLengths(due, lengths(rising(10, 10, 10))).describe(11).describe(11).byteAt(10, 0x54).size(11);
        run.clear().counts(0, 1, 1).just(1).describe(2).out(128, 0x10).clear().counts(20, 1, 1).just(1);
        run.describe(5).out(4, 0xF0, 0x0D, 0xF3, 0x09).at(0).countAll(0);
    }

    // Promise 13.

    @Edge(promise = 13, says = "CODES become those of the DESCRIPTION in IN from PLACE on, PLACE the byte behind it: T.")
    static void readOneBehindTheOther(Due due) {
        Run run = new Run(due).in(128, 0x10, 4, 0xF0, 0x0D, 0xF3, 0x09, 129, 0x21);
        run.read(1).at(2).lengthsAre(0, 1, 1, 0).read(1).at(7).lengthsAre(0, 0, 0).lengthsAre(20, 1, 1);
        run.read(2).at(9).lengthsAre(0, 1, 2, 2).about(1, 3).read(-1).at(9).about(1, 3);
        new Run(due).in(9, 128, 0x10).place(1, true).read(1).at(3).place(1, true).read(1).at(3);
    }

    @Edge(promise = 13, says = "Otherwise both stay: 0 less the fault's number.")
    static void readFaultsLeaveAll(Due due) {
        Run run = new Run(due).codes(20, 1, 2, 2).in(20, 21, 22).encode(false, 1).clear().counts(5, 1, 1);
        // One of each number behind the other; codes, PLACE, OUT and the counts stay.
        run.in(0, 3, 0xF0, 0x0D, 0x00, 128, 0x00, 200).read(-2).at(0).place(1, true).read(-3).at(1);
        run.place(5, true).read(-4).at(5).place(7, true).read(-1).at(7);
        run.lengthsAre(20, 1, 2, 2).about(1, 3).size(1).just(1).lengthsAre(5, 1, 1);
    }

    @Edge(promise = 13, says = "READ: a byte x.")
    static void readOfTheLeastAndTheGreatestByte(Due due) {
        faults(due, 2, 0);
        reads(due, Bits.joined(new int[] {255}, Bits.many(0x11, 64)), Bits.joined(Bits.many(8, 128), new int[] {1}));
    }

    @Edge(promise = 13, says = "If x is above 127, x - 127 weights")
    static void readOf128(Due due) {
        reads(due, new int[] {128, 0x10}, 1, 1);
        // 127 are bytes; it is no DIRECT of 0 weights.
        faults(due, 1, 127, 0x10);
    }

    @Edge(promise = 13, says = "(a last half that is too many counts for nothing)")
    static void readOfAHalfTooMany(Due due) {
        reads(due, new int[] {128, 0x1F}, 1, 1);
        reads(due, new int[] {130, 0x11, 0x1F}, 2, 2, 2, 2);
        faults(due, 4, 128, 0x0F);
        // Of an even number the last half counts.
        faults(due, 4, 129, 0x1F);
        reads(due, new int[] {131, 0x11, 0x11}, 3, 3, 3, 3, 1);
    }

    @Edge(promise = 13, says = "Otherwise x bytes: a share and a row, up to their end.")
    static void readOf127Bytes(Due due) {
        // 0 has -1, 1 has -1, 11 all else: places 63 and 62, and each weight of a row takes 6 bits.
        String share = "1:4 0:6 0:6 1:6 3:2 3:2 2:2 63:6";
        int[] states = Bits.many(63, 162);
        states[0] = 62;
        states[161] = 62;
        int[] description = Bits.described(Bits.of(share), rowOf(6, states));
        due.same("bytes of the longest description", description[0], 127);
        new Run(due).in(description).read(2).at(128).about(1, 3).lengthsAre(0, 2, 0).lengthsAre(160, 0, 2, 1, 0);
        // A byte less of IN, and the same with bytes behind it, which are none of it.
        new Run(due).in(java.util.Arrays.copyOf(description, 127)).read(-1).at(0).about(0, -1);
        new Run(due).in(description).in(0, 0xFF).read(2).at(128).about(1, 3);
    }

    @Edge(promise = 13, says = "T the least number with 2^T above S, and the next symbol's weight is v with 2^(v - 1) = 2^T - S.")
    static void readOfSumsAroundAPower(Due due) {
        // S of 1, 2, 3 and 4; of 1023, 1024 and 2047.
        reads(due, new int[] {128, 0x10}, 1, 1);
        reads(due, new int[] {129, 0x11}, 2, 2, 1);
        reads(due, new int[] {130, 0x11, 0x10}, 2, 2, 2, 2);
        reads(due, new int[] {131, 0x11, 0x11}, 3, 3, 3, 3, 1);
        reads(due, new int[] {137, 0xA9, 0x87, 0x65, 0x43, 0x21}, 1, 2, 3, 4, 5, 6, 7, 8, 9, 10, 10);
        reads(due, new int[] {138, 0xA9, 0x87, 0x65, 0x43, 0x21, 0x10}, 2, 3, 4, 5, 6, 7, 8, 9, 10, 11, 11, 1);
        reads(due, new int[] {138, 0xBA, 0x98, 0x76, 0x54, 0x32, 0x10}, 1, 2, 3, 4, 5, 6, 7, 8, 9, 10, 11, 11);
    }

    @Edge(promise = 13, says = "Then S is the sum of 2^(weight - 1) over the weights above 0")
    static void readOfWeightsOfZero(Due due) {
        reads(due, new int[] {131, 0x10, 0x00}, 1, 0, 0, 0, 1);
        reads(due, new int[] {131, 0x00, 0x01}, 0, 0, 0, 1, 1);
        Run run = new Run(due).in(255).in(Bits.many(0, 63)).in(0x01).read(1).at(65).about(1, 2);
        run.lengthsAre(126, 0, 1, 1, 0);
    }

    // Fault 1.

    @Edge(promise = 13, says = "1 IN ends within it")
    static void readOfAnInThatEnds(Due due) {
        faults(due, 1);
        faults(due, 1, 128);
        faults(due, 1, 130, 0x11);
        reads(due, new int[] {130, 0x11, 0x10}, 2, 2, 2, 2);
        faults(due, 1, Bits.joined(new int[] {255}, Bits.many(0x11, 63)));
        faults(due, 1, 1);
        faults(due, 1, 4, 0xF0, 0x0D, 0xF3);
        faults(due, 1, Bits.joined(new int[] {127}, Bits.many(0xFF, 126)));
        new Run(due).in(128, 0x10).place(2, true).read(-1).at(2);
        new Run(due).inOf(0x11, 5999).in(128).place(5999, true).read(-1).at(5999);
    }

    @Edge(promise = 13, says = "Faults, the first that comes")
    static void readOfSeveralFaults(Due due) {
        // 1 before 2, 3 and 4; 2 before 3 and 4; 3 before 4.
        faults(due, 1, 2, 0x0F);
        faults(due, 1, 4, 0xF0, 0x0D, 0x00);
        faults(due, 1, 131, 0x00);
        faults(due, 2, 3, 0x0F, 0x00, 0x00);
        faults(due, 2, 1, 0xF0);
        faults(due, 3, 4, 0xF0, 0x0D, 0x00, 0x02);
        faults(due, 4, 4, 0xF0, 0x0D, 0x00, 0x04);
    }

    // Fault 2.

    @Edge(promise = 13, says = "its ORDER is above 6")
    static void readOfOrders(Due due) {
        reads(due, Bits.described(FIVE, "0:5 9:5 1:1"), 1, 0, 1);
        reads(due, Bits.described(SIX, "0:6 21:6 1:1"), 1, 0, 1);
        for (int order = 2; order <= 15; order++) {
            faults(due, 2, Bits.described(order + ":4 63:7 3:2", "0:6 21:6 1:1"));
            faults(due, 2, 1, order);
        }
    }

    @Edge(promise = 13, says = "some v above 11 would have points or be said to have none")
    static void readOfPointsAboveEleven(Due due) {
        // 0 has none, nor have 10 more: the points of 11 are all, and then the row is what is wrong.
        faults(due, 3, Bits.described("0:4 1:5 3:2 3:2 3:2 1:2 63:6", "0:5 0:5 1:1"));
        // 11 more have none: 12 would have points. 12 and 14 more, and more than that: these are said to have none.
        faults(due, 2, Bits.described("0:4 1:5 3:2 3:2 3:2 2:2 63:6", "0:5 0:5 1:1"));
        faults(due, 2, Bits.described("0:4 1:5 3:2 3:2 3:2 3:2 0:2 63:6", "0:5 0:5 1:1"));
        faults(due, 2, Bits.described("0:4 1:5 3:2 3:2 3:2 3:2 2:2 63:6", "0:5 0:5 1:1"));
        faults(due, 2, Bits.joined(new int[] {20, 0x10, 0xFE}, Bits.many(0xFF, 18)));
        // 11 has none itself, and none behind it or one more is said to have none.
        faults(due, 2, Bits.described("0:4 1:5 3:2 3:2 3:2 1:2 1:5 0:2 63:6", "0:5 0:5 1:1"));
        faults(due, 2, Bits.described("0:4 1:5 3:2 3:2 3:2 1:2 1:5 1:2 63:6", "0:5 0:5 1:1"));
        // Points of 11 among others, in a description that is whole.
        List<Integer> deep = new ArrayList<>();
        for (int v : DEEP) {
            deep.add(v);
        }
        for (int order = 5; order <= 6; order++) {
            int[] bytes = PlainMill.states(deep, order).stream().mapToInt(b -> b).toArray();
            reads(due, Bits.joined(new int[] {bytes.length}, bytes), lengths(DEEP));
        }
    }

    @Edge(promise = 13, says = "something lacks when 11 has its points")
    static void readOfPointsThatLack(Due due) {
        // 31 of 32 points for 11, and all 32.
        faults(due, 2, Bits.described("0:4 1:5 3:2 3:2 3:2 1:2 62:6", "0:5 0:5 1:1"));
        faults(due, 3, Bits.described("0:4 1:5 3:2 3:2 3:2 1:2 63:6", "0:5 0:5 1:1"));
        // Twelve of -1 are 12 of 32.
        faults(due, 2, Bits.joined(new int[] {30}, Bits.many(0, 29), new int[] {1}));
        // -1 for 0 .. 10, and of what lacks 20 or all 21 for 11; then two weights of 11 are what is wrong.
        String eleven = "0:4 0:5 0:5 0:5 0:4 0:4 0:4 0:4 0:4 0:4 0:4 0:4 ";
        faults(due, 2, Bits.described(eleven + "30:5", "0:5 0:5 1:1"));
        faults(due, 4, Bits.described(eleven + "31:5", "0:5 0:5 1:1"));
    }

    @Edge(promise = 13, says = "or the x bytes end within it")
    static void readOfASharesEnd(Due due) {
        faults(due, 2, 0, 0xF0, 0x0D, 0xF3, 0x09);
        faults(due, 2, 1, 0xF0, 0x0D, 0xF3, 0x09);
        // 16 bits of a share are two bytes: one byte is too few, two are a share without a row.
        int[] share = Bits.of("0:4 31:6 1:2 0:2 3:2");
        due.same("bytes of the share", share.length, 2);
        faults(due, 2, Bits.joined(new int[] {1}, share, new int[] {0x00, 0x04}));
        faults(due, 3, Bits.joined(new int[] {2}, share, new int[] {0x00, 0x04}));
        faults(due, 4, Bits.joined(new int[] {4}, share, new int[] {0x00, 0x04}));
        // 17 bits are three bytes.
        int[] longer = Bits.of("0:4 1:5 0:2 62:6");
        faults(due, 2, Bits.joined(new int[] {2}, longer, new int[] {0xFF, 0xFF}));
    }

    // Fault 3.

    @Edge(promise = 13, says = "no byte is left")
    static void readOfNoRow(Due due) {
        faults(due, 3, 2, 0xF0, 0x0D);
        faults(due, 3, 2, 0xF0, 0x0D, 0xF3, 0x09);
    }

    @Edge(promise = 13, says = "or the last one is 0")
    static void readOfARowWithoutEnd(Due due) {
        faults(due, 3, 3, 0xF0, 0x0D, 0x00);
        faults(due, 3, 5, 0xF0, 0x0D, 0xF3, 0x09, 0x00);
        reads(due, Bits.described(FIVE, "0:5 9:5 1:1"), 1, 0, 1);
    }

    @Edge(promise = 13, says = "or there are fewer bits than two states take")
    static void readOfTooFewBits(Due due) {
        // 9 and 10 bits of ORDER 5, 11 and 12 of ORDER 6, and none at all.
        faults(due, 3, Bits.described(FIVE, "1:1"));
        faults(due, 3, Bits.described(FIVE, "0:4 9:5 1:1"));
        reads(due, Bits.described(FIVE, "0:5 9:5 1:1"), 1, 0, 1);
        faults(due, 3, Bits.described(SIX, "0:5 21:6 1:1"));
        reads(due, Bits.described(SIX, "0:6 21:6 1:1"), 1, 0, 1);
        // The last byte of the share has bits behind it, which are none of the row.
        faults(due, 3, Bits.described(FIVE + " 15:4", "0:4 9:5 1:1"));
        reads(due, Bits.described(FIVE + " 15:4", "0:5 9:5 1:1"), 1, 0, 1);
    }

    @Edge(promise = 13, says = "or it has more than 255 weights")
    static void readOfTheMostWeights(Due due) {
        for (int order = 5; order <= 6; order++) {
            for (int many = 253; many <= 258; many++) {
                int[] description = rowOfMany(many, order);
                if (many <= 255) {
                    Run run = new Run(due).in(description).read(1).at(description.length).about(1, 2);
                    run.lengthsAre(99, 0, 1, 0).lengthsAre(many - 1, 0, 1);
                } else {
                    faults(due, 3, description);
                }
            }
        }
    }

    @Edge(promise = 13, says = "or it has more than 255 weights")
    static void readOfARowThatNeverEnds(Due due) {
        // One has all points: its places take no bits, so that no row has an end.
        faults(due, 3, Bits.described("0:4 63:6", "0:5 0:5 1:1"));
        faults(due, 3, Bits.described("1:4 127:7", "0:6 0:6 1:1"));
        faults(due, 3, Bits.described("0:4 1:5 0:2 63:6", "31:5 31:5 1:1"));
    }

    // Fault 4.

    @Edge(promise = 13, says = "4 no codes: S is 0")
    static void readOfNoWeights(Due due) {
        faults(due, 4, 128, 0x00);
        faults(due, 4, Bits.joined(new int[] {255}, Bits.many(0, 64)));
        faults(due, 4, Bits.described(FIVE, "0:5 0:5 1:1"));
        reads(due, new int[] {128, 0x10}, 1, 1);
    }

    @Edge(promise = 13, says = "T is above 11")
    static void readOfTooDeepCodes(Due due) {
        // S of 2047 and of 2048.
        reads(due, new int[] {138, 0xBA, 0x98, 0x76, 0x54, 0x32, 0x10}, lengths(DEEP));
        faults(due, 4, 139, 0xBA, 0x98, 0x76, 0x54, 0x32, 0x11);
        // WEIGHTS that no symbol has, 12 and 15, and as many of these as there can be.
        faults(due, 4, 139, 0xC1, 0x11, 0x11, 0x11, 0x11, 0x11);
        faults(due, 4, 139, 0xCB, 0xA9, 0x87, 0x65, 0x43, 0x21);
        faults(due, 4, 128, 0xF0);
        faults(due, 4, Bits.joined(new int[] {255}, Bits.many(0xFF, 64)));
    }

    @Edge(promise = 13, says = "2^T - S is no power of two")
    static void readOfSumsThatCantBeCompleted(Due due) {
        faults(due, 4, 129, 0x31);
        reads(due, new int[] {130, 0x11, 0x30}, 3, 3, 1, 2);
        reads(due, new int[] {130, 0x11, 0x20}, 3, 3, 2, 1);
        reads(due, new int[] {130, 0x12, 0x30}, 3, 2, 1, 3);
        faults(due, 4, 131, 0x11, 0x12);
        reads(due, new int[] {132, 0x11, 0x11, 0x20}, 3, 3, 3, 3, 2, 2);
    }

    @Edge(promise = 13, says = "or fewer than two weights (with that of the next symbol) are 1.")
    static void readOfTooFewOnes(Due due) {
        // None at all; two with that of the next symbol; two without it.
        faults(due, 4, 128, 0x20);
        faults(due, 4, 129, 0x22);
        faults(due, 4, 128, 0xB0);
        reads(due, new int[] {129, 0x12}, 2, 1, 2);
        reads(due, new int[] {129, 0x11}, 2, 2, 1);
    }

    // Shares and rows, as they are read.

    @Edge(promise = 13, says = "PLACES of a share are 0 .. 2^L - 1.")
    static void readOfEveryPlace(Due due) {
        // The first state is a place of 1; the second goes through all, of which another one has 1, too.
        Run run = new Run(due);
        for (int place = 0; place < 32; place++) {
            run.in(Bits.described(FIVE, place + ":5 9:5 1:1"));
        }
        for (int place = 0; place < 32; place++) {
            boolean one = place == 9 || place == 18;
            run.read(one ? 2 : 1).code(1, 0, one ? 2 : -1);
        }
        run = new Run(due);
        for (int place = 0; place < 64; place++) {
            run.in(Bits.described(SIX, place + ":6 21:6 1:1"));
        }
        for (int place = 0; place < 64; place++) {
            boolean one = place == 21 || place == 42;
            run.read(one ? 2 : 1).code(1, 0, one ? 2 : -1);
        }
    }

    @Edge(promise = 13, says = "Each v with -1 points, in rising order, has the highest place that is not taken.")
    static void readOfPlacesOfMinusOne(Due due) {
        // 30 points of 0, -1 of 1, -1 of 2.
        String share = "0:4 31:6 0:2 0:1";
        reads(due, Bits.described(share, "30:5 31:5 1:1"), 2, 1, 2);
        reads(due, Bits.described(share, "31:5 30:5 1:1"), 1, 2, 2);
        reads(due, Bits.described(share, "31:5 31:5 1:1"), 2, 2, 1);
        reads(due, Bits.described(share, "29:5 31:5 1:1"), 1, 0, 1);
        // -1 of 0 is the first: 31; then that of 2: 30; 1 has all other places.
        share = "0:4 0:5 31:6 0:1";
        reads(due, Bits.described(share, "31:5 0:5 1:1"), 1, 0, 1);
        reads(due, Bits.described(share, "30:5 0:5 1:1"), 2, 1, 2);
        reads(due, Bits.described(share, "29:5 0:5 1:1"), 2, 2, 1);
    }

    @Edge(promise = 13, says = "modulo 2^L, places of those with -1 points being left out.")
    static void readOfPlacesByWalk(Due due) {
        // 15 points of 0, 15 of 1, -1 of 2 and of 3. By steps of 23, without 31 and 30, these are 1's.
        String share = "0:4 16:5 29:5 0:2 0:1";
        String ones = " 25 16 7 21 12 3 26 17 8 22 13 4 27 18 9 ";
        Run run = new Run(due);
        for (int place = 0; place < 32; place++) {
            run.in(Bits.described(share, place + ":5 9:5 1:1"));
        }
        for (int place = 0; place < 30; place++) {
            boolean one = ones.contains(" " + place + " ");
            run.read(one ? 2 : 1).code(1, 0, one ? 2 : -1);
        }
        // 30 is 3's, with which 1 is no code; 31 is 2's.
        run.read(-4).place(31 * 6, true).read(2).code(1, 0, 1);
    }

    @Edge(promise = 13, says = "The places of a v of mass w have, in rising order, the NUMBERS w .. 2 w - 1.")
    static void readOfNumbers(Due due) {
        // 1 has the numbers 2 and 3 at 9 and 18, which take 4 bits and go to 0 .. 15 and to 16 .. 31.
        reads(due, Bits.described(FIVE, "9:4 0:5 9:5 1:1"), 2, 0, 2, 1);
        reads(due, Bits.described(FIVE, "8:4 0:5 9:5 1:1"), 1, 0, 0, 1);
        reads(due, Bits.described(FIVE, "2:4 0:5 18:5 1:1"), 2, 0, 2, 1);
        reads(due, Bits.described(FIVE, "9:4 0:5 18:5 1:1"), 1, 0, 0, 1);
        reads(due, Bits.described(FIVE, "15:4 0:5 18:5 1:1"), 1, 0, 0, 1);
    }

    @Edge(promise = 13, says = "One with number x takes b = L - (the greatest k with 2^k <= x) bits, and its BASE is x * 2^b - 2^L.")
    static void readOfBitsAndBases(Due due) {
        // 0 has the numbers 30 .. 59. 31, at place 1, takes a bit and goes to 30 or 31; 32, at place 2, takes none.
        reads(due, Bits.described(FIVE, "9:5 1:5 1:1"), 0, 1, 1);
        reads(due, Bits.described(FIVE, "9:5 2:5 1:1"), 0, 1, 0, 1);
        // 40 and 41, at 11 and 12, go to 8 and to 9, which is 1's; 59, at 31, goes to 27.
        faults(due, 4, Bits.described(FIVE, "0:5 11:5 1:1"));
        reads(due, Bits.described(FIVE, "0:5 12:5 1:1"), 0, 0, 1, 1);
        reads(due, Bits.described(FIVE, "9:5 31:5 1:1"), 0, 1, 0, 1);
        // -1 is a mass of 1: number 1, all five bits, BASE 0.
        String share = "0:4 31:6 0:2 0:1";
        reads(due, Bits.described(share, "31:5 0:5 31:5 1:1"), 2, 0, 2, 1);
        reads(due, Bits.described(share, "0:5 0:5 31:5 1:1"), 1, 0, 0, 1);
    }

    @Edge(promise = 13, says = "its MASS is its points, but 1 for -1")
    static void readOfOnePointAndOfMinusOne(Due due) {
        // Both have one place: that of one point is the last of the walk, 9; that of -1 is 31.
        reads(due, Bits.described("0:4 62:6 3:2", "0:5 9:5 1:1"), 1, 0, 1);
        reads(due, Bits.described("0:4 62:6 3:2", "9:5 31:5 1:1"), 0, 1, 0, 1);
        reads(due, Bits.described("0:4 62:6 0:1", "0:5 31:5 1:1"), 1, 0, 1);
        faults(due, 4, Bits.described("0:4 62:6 0:1", "0:5 9:5 1:1"));
    }

    @Edge(promise = 13, says = "all masses together are 2^L.")
    static void readOfMassesThatAreAllAtOnce(Due due) {
        // When all is given out, the share ends: what follows in its byte is of no matter.
        reads(due, Bits.described("0:4 31:6 3:2 15:4", "0:5 9:5 1:1"), 1, 0, 1);
        reads(due, Bits.described("0:4 31:6 3:2 5:4", "0:5 9:5 1:1"), 1, 0, 1);
        // Nor have those behind it the points of a share before: 31 is 0's again, which was 1's.
        Run run = new Run(due).in(Bits.described("0:4 31:6 0:2 0:1", "30:5 31:5 1:1"));
        run.in(Bits.described(FIVE, "31:5 9:5 1:1")).in(Bits.described("0:4 1:5 0:2 62:6 0:1", "31:5 0:5 1:1"));
        run.in(Bits.described(FIVE, "31:5 9:5 1:1"));
        run.read(2).lengthsAre(0, 2, 1, 2, 0).read(1).lengthsAre(0, 1, 0, 1, 0);
        run.read(2).lengthsAre(0, 2, 1, 2, 0).read(1).lengthsAre(0, 1, 0, 1, 0);
    }

    @Edge(promise = 13, says = "It is written so: L - 5 in 4 bits.")
    static void readOfOrderInFourBits(Due due) {
        faults(due, 2, Bits.described("8:4 31:6 3:2", "0:5 9:5 1:1"));
        faults(due, 2, Bits.described("9:4 63:7 3:2", "0:6 21:6 1:1"));
        faults(due, 2, Bits.described("2:4 63:7 3:2", "0:6 21:6 1:1"));
    }

    @Edge(promise = 13, says = "the points and 1 are a number u from 0 to R + 1")
    static void readOfTheLeastAndTheMostPoints(Due due) {
        // u of 0 for 0, and of R + 1, which is 32 then, for 1: all is there; so it is with 33 for 0.
        reads(due, Bits.described("0:4 0:5 63:6", "31:5 0:5 1:1"), 1, 0, 1);
        faults(due, 3, Bits.described("0:4 63:6", "31:5 0:5 1:1"));
        // R is 2 behind 30 points: u of 0, 1, 2 and 3 take two bits each.
        reads(due, Bits.described("0:4 31:6 0:2 0:1", "0:5 31:5 1:1"), 1, 0, 1);
        faults(due, 4, Bits.described("0:4 31:6 1:2 0:2 3:2", "0:5 0:5 1:1"));
        reads(due, Bits.described("0:4 31:6 2:2 3:2", "9:5 18:5 1:1"), 2, 1, 2);
        reads(due, Bits.described("0:4 31:6 3:2", "9:5 18:5 1:1"), 2, 2, 1);
        // R is 1 behind 31 points: u of 0 takes one bit, of 1 and 2 two.
        reads(due, Bits.described("0:4 62:6 0:1", "0:5 31:5 1:1"), 1, 0, 1);
        faults(due, 4, Bits.described("0:4 62:6 1:2 0:2 0:1", "0:5 0:5 1:1"));
        reads(due, Bits.described("0:4 62:6 3:2", "0:5 9:5 1:1"), 1, 0, 1);
    }

    @Edge(promise = 13, says = "It is read from its END down: L bits are the first state, L bits the second")
    static void readOfFirstAndSecond(Due due) {
        reads(due, Bits.described(FIVE, "0:5 9:5 1:1"), 1, 0, 1);
        reads(due, Bits.described(FIVE, "9:5 0:5 1:1"), 0, 1, 1);
        // The END in any bit of the last byte: of bits below the second state there is no use but for 4 of them.
        for (int bits = 0; bits <= 3; bits++) {
            String row = (bits > 0 ? "0:" + bits + " " : "") + "0:5 9:5 1:1";
            reads(due, Bits.described(FIVE, row), 1, 0, 1);
        }
    }

    @Edge(promise = 13, says = "then, the first and the second by turns")
    static void readByTurns(Due due) {
        // First 9, which goes to 9 by four bits; second 0, which goes to 28 by one; then 9 ends it.
        reads(due, Bits.described(FIVE, "0:1 9:4 0:5 9:5 1:1"), 2, 0, 2, 0, 1);
        // Once more around: 9 goes to 0, and 28, which takes none, to 24; then 0 ends it.
        reads(due, Bits.described(FIVE, "0:4 0:1 9:4 0:5 9:5 1:1"), 2, 0, 2, 0, 0, 0, 1);
    }

    @Edge(promise = 13, says = "when fewer bits are left than it takes, the v of the other state comes, and the row ends.")
    static void readOfTheLastBits(Due due) {
        // 9 takes 4 bits: none, three and four are left.
        reads(due, Bits.described(FIVE, "0:5 9:5 1:1"), 1, 0, 1);
        reads(due, Bits.described(FIVE, "7:3 0:5 9:5 1:1"), 1, 0, 1);
        reads(due, Bits.described(FIVE, "9:4 0:5 9:5 1:1"), 2, 0, 2, 1);
        // The second one, 0, takes one: none and one are left.
        reads(due, Bits.described(FIVE, "1:1 9:4 0:5 9:5 1:1"), 2, 0, 2, 0, 1);
        // None are left, but 2 takes none: it goes on to 0, and ends with the second.
        reads(due, Bits.described(FIVE, "9:5 2:5 1:1"), 0, 1, 0, 1);
    }
}
