/** Promises 10, 11, 16 and 17: codes by counts and by lengths, and what is said of them. */
public final class CodesTest {
    private static final Due DUE = new Due();

    public static void main(String[] args) {
        lengthsInOrder();
        lengthsOfEqualSums();
        lengthsHalved();
        lengthsRefused();
        lengthsAtTheEdges();
        just();
        justRefused();
        about();
        code();
        DUE.end();
    }

    private static PrefixMill counted(int first, int... counts) {
        PrefixMill mill = new PrefixMill();
        for (int i = 0; i < counts.length; i++) {
            mill.count(first + i, counts[i]);
        }
        return mill;
    }

    private static void lengthsAre(String call, PrefixMill mill, int first, int... want) {
        for (int i = 0; i < want.length; i++) {
            int due = want[i] == 0 ? -1 : want[i];
            DUE.same(call + ", then code(" + (first + i) + ", 0)", mill.code(first + i, 0), due);
        }
    }

    private static void lengthsInOrder() {
        PrefixMill mill = counted(10, 1, 1, 2, 4, 8, 16);
        DUE.same("lengths(11) of powers", mill.lengths(11), 5);
        lengthsAre("powers", mill, 10, 5, 5, 4, 3, 2, 1);
        // 1 and 1 of symbols 0 and 1 go first, then 1 of 2 with the 2 of 3, which is before the sum.
        mill = counted(0, 1, 1, 1, 2);
        DUE.same("lengths(11) of 1 1 1 2", mill.lengths(11), 2);
        lengthsAre("1 1 1 2", mill, 0, 2, 2, 2, 2);
        // Of three equal ones the first two go.
        mill = counted(0, 1, 1, 1);
        DUE.same("lengths(11) of 1 1 1", mill.lengths(11), 2);
        lengthsAre("1 1 1", mill, 0, 2, 2, 1);
        mill = counted(253, 7, 7, 7);
        DUE.same("lengths(11) of 7 7 7", mill.lengths(11), 2);
        lengthsAre("7 7 7", mill, 253, 2, 2, 1);
    }

    private static void lengthsOfEqualSums() {
        // 1+1=2 comes behind the two 2s: these go together, so every length but the 8's is 3.
        PrefixMill mill = counted(0, 2, 1, 1, 2, 8);
        DUE.same("lengths(11) of 2 1 1 2 8", mill.lengths(11), 3);
        lengthsAre("2 1 1 2 8", mill, 0, 3, 3, 3, 3, 1);
        // Two sums of 2 come behind the two 2s, which go together, and then so do the sums.
        mill = counted(0, 1, 1, 1, 2, 1, 2);
        DUE.same("lengths(11) of 1 1 1 2 1 2", mill.lengths(11), 3);
        lengthsAre("1 1 1 2 1 2", mill, 0, 3, 3, 3, 2, 3, 2);
        // Sums 2 and 2 come; the last 1 goes with the elder one.
        mill = counted(0, 1, 1, 1, 1, 1);
        DUE.same("lengths(11) of 1 1 1 1 1", mill.lengths(11), 3);
        lengthsAre("1 1 1 1 1", mill, 0, 3, 3, 2, 2, 2);
    }

    private static void lengthsHalved() {
        PrefixMill mill = counted(0, 1, 1, 2, 4, 8, 16);
        // Halved once: 1 1 1 2 4 8, with lengths up to 4; twice: 1 1 1 1 2 4, up to 3.
        DUE.same("lengths(4)", mill.lengths(4), 4);
        lengthsAre("halved for 4", mill, 0, 4, 4, 4, 4, 2, 1);
        DUE.same("lengths(3)", mill.lengths(3), 3);
        lengthsAre("halved for 3", mill, 0, 3, 3, 3, 3, 2, 2);
        DUE.same("what was counted stays", mill.lengths(11), 5);
        lengthsAre("not halved", mill, 0, 5, 5, 4, 3, 2, 1);
        // Rounded up, a count never becomes 0.
        mill = counted(0, 1, 65535, 1, 65535, 1);
        DUE.same("lengths(3) of far counts", mill.lengths(3), 3);
        DUE.same("all five are there", mill.about(1), 5);
        // Fibonacci's counts make the greatest lengths there are.
        mill = new PrefixMill();
        int a = 1;
        int b = 1;
        for (int s = 0; s < 23; s++) {
            DUE.same("count", mill.count(2 * s, a), true);
            b = a + b;
            a = b - a;
        }
        for (int most = 5; most <= 11; most++) {
            int t = mill.lengths(most);
            DUE.same("lengths(" + most + ") stays within", t > 0 && t <= most, true);
            DUE.same("all 23 are there", mill.about(1), 23);
        }
    }

    private static void lengthsRefused() {
        PrefixMill mill = counted(0, 1, 2, 3, 4, 5);
        int[] wrong = {0, 12, -1, Integer.MIN_VALUE, Integer.MAX_VALUE};
        for (int most : wrong) {
            DUE.same("lengths(" + most + ")", mill.lengths(most), -1);
        }
        DUE.same("still none", mill.about(0), -1);
        DUE.same("lengths(1) of five", mill.lengths(1), -2);
        DUE.same("lengths(2) of five", mill.lengths(2), -2);
        DUE.same("still none", mill.about(0), -1);
        DUE.same("lengths(3) of five", mill.lengths(3), 3);
        mill.count(5, 9);
        DUE.same("lengths(2) of six", mill.lengths(2), -2);
        DUE.same("the codes stay", mill.about(1), 5);
        mill.clear();
        DUE.same("lengths(11) of none", mill.lengths(11), -2);
        DUE.same("lengths(0) of none", mill.lengths(0), -1);
        mill.count(200, 65535);
        DUE.same("lengths(11) of one", mill.lengths(11), -2);
        DUE.same("the codes stay", mill.about(1), 5);
        DUE.same("T stays", mill.about(0), 3);
    }

    private static void lengthsAtTheEdges() {
        PrefixMill mill = counted(0, 65535, 1);
        DUE.same("lengths(1) of two", mill.lengths(1), 1);
        lengthsAre("two", mill, 0, 1, 1);
        mill = counted(0, 9, 1, 1, 1);
        DUE.same("lengths(2) of four", mill.lengths(2), 2);
        lengthsAre("four", mill, 0, 2, 2, 2, 2);
        for (int most = 1; most <= 8; most++) {
            mill = new PrefixMill();
            for (int s = 0; s < 1 << most; s++) {
                mill.count(255 - s, s * s + 1);
            }
            DUE.same("lengths(" + most + ") of 2^" + most, mill.lengths(most), most);
            lengthsAre("2^" + most, mill, 255, most);
            DUE.same("all are there", mill.about(1), 1 << most);
        }
        mill = new PrefixMill();
        for (int s = 0; s < 256; s++) {
            mill.count(s, 65535);
        }
        DUE.same("lengths(11) of the greatest counts", mill.lengths(11), 8);
        DUE.same("lengths(7) of 256", mill.lengths(7), -2);
    }

    private static void just() {
        PrefixMill mill = counted(0, 1, 2, 3, 4, 5, 6, 7, 8, 9, 10, 11, 11);
        DUE.same("just() of 1 .. 11 11", mill.just(), 11);
        lengthsAre("1 .. 11 11", mill, 0, 1, 2, 3, 4, 5, 6, 7, 8, 9, 10, 11, 11);
        mill.clear();
        DUE.same("just() of none", mill.just(), -1);
        mill.count(255, 1);
        DUE.same("just() of one 1", mill.just(), -1);
        mill.count(0, 1);
        DUE.same("just() of two 1", mill.just(), 1);
        lengthsAre("two 1", mill, 0, 1, 0);
        lengthsAre("two 1", mill, 254, 0, 1);
    }

    private static void justRefused() {
        PrefixMill mill = counted(0, 2, 2, 2, 2);
        DUE.same("just() of 2 2 2 2", mill.just(), 2);
        int[][] wrong = {
            {2, 2, 2, 0}, {2, 2, 2, 1}, {2, 2, 2, 3}, {1, 1, 1, 0}, {1, 2, 3, 0}, {3, 3, 3, 3}, {1, 1, 11, 0},
            {12, 12, 0, 0}, {1, 12, 0, 0}, {1, 65535, 0, 0}, {1, 33, 33, 0}, {33, 1, 0, 0},
            {12, 1, 0, 0}, {0, 0, 1, 33}, {2, 2, 1, 32}, {65535, 65535, 1, 1}
        };
        for (int[] counts : wrong) {
            mill.clear();
            for (int s = 0; s < 4; s++) {
                mill.count(s, counts[s]);
            }
            DUE.same("just() of " + java.util.Arrays.toString(counts), mill.just(), -1);
            lengthsAre("the codes stay", mill, 0, 2, 2, 2, 2);
        }
        // 1 .. 12 12 are lengths, but for the 12.
        mill = counted(0, 1, 2, 3, 4, 5, 6, 7, 8, 9, 10, 11, 12, 12);
        DUE.same("just() of 1 .. 12 12", mill.just(), -1);
        DUE.same("about(0)", mill.about(0), -1);
    }

    private static void about() {
        PrefixMill mill = counted(65, 1, 2, 3, 3);
        DUE.same("just()", mill.just(), 3);
        mill.write(0x4142434400000000L, 4);
        DUE.same("about(0)", mill.about(0), 3);
        DUE.same("about(1)", mill.about(1), 4);
        DUE.same("about(2)", mill.about(2), 9);
        mill.place(1);
        DUE.same("about(2) from 1", mill.about(2), 8);
        mill.place(4);
        DUE.same("about(2) of none", mill.about(2), 0);
        int[] wrong = {3, -1, Integer.MIN_VALUE, Integer.MAX_VALUE};
        for (int what : wrong) {
            DUE.same("about(" + what + ")", mill.about(what), -1);
        }
        mill.write(0x4100000000000000L, 2);
        DUE.same("about(2) with a 0", mill.about(2), -1);
        mill.place(6);
        DUE.same("about(2) behind the 0", mill.about(2), 0);
        DUE.same("about(0) as before", mill.about(0), 3);
        PrefixMill full = counted(0, 1, 2, 3, 4, 5, 6, 7, 8, 9, 10, 11, 11);
        full.just();
        full.write(0x0B00000000000000L, 1);
        full.again(1, 5999);
        DUE.same("about(2) of 6000 elevens", full.about(2), 66000);
    }

    private static void code() {
        PrefixMill mill = counted(65, 1, 2, 3, 3);
        DUE.same("code before", mill.code(65, 0), -1);
        mill.just();
        int[] codes = {1, 1, 0, 1};
        for (int i = 0; i < 4; i++) {
            DUE.same("code(" + (65 + i) + ", 1)", mill.code(65 + i, 1), codes[i]);
        }
        // Of the same length in rising order of symbols, the longest from 0 on.
        mill = counted(0, 3, 2, 3, 2, 2);
        mill.just();
        int[] more = {0, 1, 1, 2, 3};
        for (int i = 0; i < 5; i++) {
            DUE.same("code(" + i + ", 1)", mill.code(i, 1), more[i]);
        }
        int[] none = {5, 255, -1, 256, Integer.MIN_VALUE, Integer.MAX_VALUE};
        for (int symbol : none) {
            DUE.same("code(" + symbol + ", 0)", mill.code(symbol, 0), -1);
            DUE.same("code(" + symbol + ", 1)", mill.code(symbol, 1), -1);
        }
        int[] wrong = {2, -1, Integer.MIN_VALUE, Integer.MAX_VALUE};
        for (int what : wrong) {
            DUE.same("code(0, " + what + ")", mill.code(0, what), -1);
        }
        mill = counted(0, 1, 2, 3, 4, 5, 6, 7, 8, 9, 10, 11, 11);
        mill.just();
        for (int i = 0; i < 10; i++) {
            DUE.same("code(" + i + ", 1)", mill.code(i, 1), 1);
        }
        DUE.same("code(10, 1)", mill.code(10, 1), 0);
        DUE.same("code(11, 1)", mill.code(11, 1), 1);
    }
}
