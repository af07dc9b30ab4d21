/** Promises 1 to 9, 18 and 19: a new object, IN, PLACE, the counts, and how OUT is seen. */
public final class RowsTest {
    private static final Due DUE = new Due();

    public static void main(String[] args) {
        newObject();
        write();
        writeFull();
        again();
        againFull();
        turn();
        turnKeepsApart();
        clear();
        place();
        count();
        countAll();
        sizeAndByteAt();
        DUE.end();
    }

    /** Makes every byte of IN seen in OUT: by codes of 8 bits for all, forth and back. */
    private static void seeIn(String call, PrefixMill mill, int... want) {
        for (int symbol = 0; symbol < 256; symbol++) {
            mill.count(symbol, 8);
        }
        DUE.same("just() of 256 eights", mill.just(), 8);
        DUE.same(call + ", then encode(false)", mill.encode(false), want.length + 1);
        for (int k = 0; k < want.length; k++) {
            // Codes are the symbols, and the last one stands first.
            DUE.same(call + ", then byte " + k + " of IN", mill.byteAt(want.length - 1 - k), want[k]);
        }
        DUE.same(call + ", then the END", mill.byteAt(want.length), 1);
    }

    private static void newObject() {
        PrefixMill mill = new PrefixMill();
        DUE.same("new at()", mill.at(), 0);
        DUE.same("new size()", mill.size(), 0);
        DUE.same("new byteAt(0)", mill.byteAt(0), -1);
        for (int what = -1; what <= 3; what++) {
            DUE.same("new about(" + what + ")", mill.about(what), -1);
        }
        for (int symbol = -1; symbol <= 256; symbol++) {
            DUE.same("new code(" + symbol + ", 0)", mill.code(symbol, 0), -1);
            DUE.same("new code(" + symbol + ", 1)", mill.code(symbol, 1), -1);
        }
        DUE.same("new lengths(11)", mill.lengths(11), -2);
        DUE.same("new just()", mill.just(), -1);
        DUE.same("new describe()", mill.describe(), -1);
        DUE.same("new read()", mill.read(), -1);
        DUE.same("new encode(false)", mill.encode(false), -1);
        DUE.same("new encode(true)", mill.encode(true), -1);
        DUE.same("new decode(0, false)", mill.decode(0, false), -1);
        DUE.same("new decode(0, true)", mill.decode(0, true), -1);
        DUE.same("new again(1, 0)", mill.again(1, 0), false);
        DUE.same("new place(1)", mill.place(1), false);
        DUE.same("new place(0)", mill.place(0), true);
        DUE.same("new countAll()", mill.countAll(), 0);
        mill.turn();
        DUE.same("new turn(), then countAll()", mill.countAll(), 0);
        mill.clear();
        DUE.same("new clear(), then countAll()", mill.countAll(), 0);
        // One count is not enough, two are: none was above 0 before.
        DUE.same("count(3, 1)", mill.count(3, 1), true);
        DUE.same("lengths(11) of one", mill.lengths(11), -2);
        DUE.same("count(255, 1)", mill.count(255, 1), true);
        DUE.same("lengths(11) of two", mill.lengths(11), 1);
        DUE.same("about(1) of two", mill.about(1), 2);
    }

    private static void write() {
        PrefixMill mill = new PrefixMill();
        DUE.same("write(.., 8)", mill.write(0x01FF0280037F0400L, 8), true);
        DUE.same("write(.., 3)", mill.write(0xAABBCC1122334455L, 3), true);
        DUE.same("write(.., 1)", mill.write(0xFE01020304050607L, 1), true);
        int[] refused = {0, 9, -1, 100, Integer.MIN_VALUE, Integer.MAX_VALUE};
        for (int n : refused) {
            DUE.same("write(-1, " + n + ")", mill.write(-1L, n), false);
        }
        DUE.same("write leaves PLACE", mill.at(), 0);
        seeIn("writes", mill, 1, 255, 2, 128, 3, 127, 4, 0, 0xAA, 0xBB, 0xCC, 0xFE);
    }

    private static void writeFull() {
        PrefixMill mill = new PrefixMill();
        for (int i = 0; i < 400; i++) {
            DUE.same("write of eight", mill.write(i, 8), true);
        }
        DUE.same("349 times eight more", mill.again(8, 349), true);
        DUE.same("5992 bytes", mill.countAll(), 5992);
        DUE.same("write to 5999", mill.write(-1, 7), true);
        DUE.same("write beyond 6000", mill.write(-1, 2), false);
        DUE.same("5999 bytes", mill.countAll(), 5999);
        DUE.same("write to 6000", mill.write(-1, 1), true);
        DUE.same("write when full", mill.write(-1, 1), false);
        DUE.same("write of 0 when full", mill.write(-1, 0), false);
        DUE.same("6000 bytes", mill.countAll(), 6000);
    }

    private static void again() {
        PrefixMill mill = new PrefixMill();
        DUE.same("again of none", mill.again(0, 0), false);
        mill.write(0x0102030000000000L, 3);
        DUE.same("again(2, 2)", mill.again(2, 2), true);
        DUE.same("again(7, 1)", mill.again(7, 1), true);
        DUE.same("again(1, 0)", mill.again(1, 0), true);
        DUE.same("again(0, 1)", mill.again(0, 1), false);
        DUE.same("again(-1, 1)", mill.again(-1, 1), false);
        DUE.same("again(15, 1)", mill.again(15, 1), false);
        DUE.same("again(15, 0)", mill.again(15, 0), false);
        DUE.same("again(1, -1)", mill.again(1, -1), false);
        DUE.same("again leaves PLACE", mill.at(), 0);
        seeIn("agains", mill, 1, 2, 3, 2, 3, 2, 3, 1, 2, 3, 2, 3, 2, 3);
    }

    private static void againFull() {
        PrefixMill mill = new PrefixMill();
        mill.write(0x0908070000000000L, 3);
        DUE.same("again(3, 2000)", mill.again(3, 2000), false);
        // Products that an int does not hold, some of which come out small in it.
        DUE.same("again(2, 2^31 - 1)", mill.again(2, Integer.MAX_VALUE), false);
        DUE.same("again(2, 2^30 * 2)", mill.again(2, 1 << 30), false);
        DUE.same("again(1, 2^31 - 1)", mill.again(1, Integer.MAX_VALUE), false);
        DUE.same("again(3, 1431655766)", mill.again(3, 1431655766), false);
        DUE.same("again(least, least)", mill.again(Integer.MIN_VALUE, Integer.MIN_VALUE), false);
        DUE.same("nothing came", mill.countAll(), 3);
        DUE.same("again(3, 1999)", mill.again(3, 1999), true);
        DUE.same("6000 by again", mill.countAll(), 6000);
        DUE.same("again(6000, 0)", mill.again(6000, 0), true);
        DUE.same("again(1, 1) when full", mill.again(1, 1), false);
        DUE.same("again(6000, 1) when full", mill.again(6000, 1), false);
        DUE.same("place(2) of full", mill.place(2), true);
        DUE.same("5998 from PLACE on", mill.countAll(), 5998);
        DUE.same("lengths(11)", mill.lengths(11), 2);
        DUE.same("nines and eights are rarer", mill.code(7, 0), 1);
    }

    private static PrefixMill withTwoCodes() {
        PrefixMill mill = new PrefixMill();
        mill.count(0, 1);
        mill.count(1, 1);
        mill.just();
        return mill;
    }

    private static void turn() {
        PrefixMill mill = withTwoCodes();
        mill.write(0, 3);
        mill.place(2);
        DUE.same("encode", mill.encode(false), 1);
        DUE.out("encode", mill, 2);
        mill.turn();
        DUE.same("turn() puts PLACE to 0", mill.at(), 0);
        DUE.same("turn() leaves the codes", mill.about(0), 1);
        DUE.out("turn()", mill, 2);
        DUE.same("IN is OUT", mill.countAll(), 1);
        DUE.same("place(1) after turn()", mill.place(1), true);
        DUE.same("place(2) after turn()", mill.place(2), false);
        DUE.same("the byte has no code", mill.code(2, 0), -1);
        mill.place(0);
        DUE.same("about(2) of byte 2", mill.about(2), -1);
        // The counts are no part of what turns.
        DUE.same("count", mill.count(1, 1), true);
        mill.turn();
        DUE.same("counts stay: 1 and 2", mill.lengths(11), 1);
        DUE.same("code of 2", mill.code(2, 1), 1);
    }

    private static void turnKeepsApart() {
        PrefixMill mill = withTwoCodes();
        DUE.same("describe()", mill.describe(), 2);
        mill.turn();
        mill.write(-1, 8);
        DUE.out("write behind turn()", mill, 128, 16);
        mill.turn();
        DUE.same("IN is OUT again", mill.countAll(), 2);
        mill.clear();
        DUE.out("clear() behind turn()", mill, 128, 16);
        PrefixMill empty = new PrefixMill();
        empty.write(5, 8);
        empty.turn();
        DUE.same("turn() with an empty OUT", empty.countAll(), 0);
    }

    private static void clear() {
        PrefixMill mill = withTwoCodes();
        mill.write(0, 5);
        DUE.same("encode", mill.encode(false), 1);
        mill.place(4);
        mill.clear();
        DUE.same("clear() puts PLACE to 0", mill.at(), 0);
        DUE.same("clear() leaves the codes", mill.about(1), 2);
        DUE.out("clear() leaves OUT", mill, 32);
        DUE.same("clear() empties the counts", mill.lengths(11), -2);
        DUE.same("clear() empties IN", mill.countAll(), 0);
        DUE.same("place(1) after clear()", mill.place(1), false);
        mill.write(0x0100000000000000L, 1);
        DUE.same("what is written then is alone", mill.about(2), 1);
    }

    private static void place() {
        PrefixMill mill = new PrefixMill();
        mill.write(0x0102030400000000L, 4);
        DUE.same("place(4)", mill.place(4), true);
        DUE.same("at() 4", mill.at(), 4);
        int[] refused = {5, -1, 6000, Integer.MIN_VALUE, Integer.MAX_VALUE};
        for (int p : refused) {
            DUE.same("place(" + p + ")", mill.place(p), false);
            DUE.same("at() stays", mill.at(), 4);
        }
        DUE.same("place(1)", mill.place(1), true);
        DUE.same("at() 1", mill.at(), 1);
        DUE.same("at() 1 again", mill.at(), 1);
        mill.write(0, 8);
        DUE.same("place(12)", mill.place(12), true);
        DUE.same("place(13)", mill.place(13), false);
        DUE.same("place(0)", mill.place(0), true);
        DUE.same("at() 0", mill.at(), 0);
    }

    private static void count() {
        PrefixMill mill = new PrefixMill();
        DUE.same("count(0, 1)", mill.count(0, 1), true);
        DUE.same("count(255, 1)", mill.count(255, 1), true);
        DUE.same("count(7, 65535)", mill.count(7, 65535), true);
        int[] none = {-1, 256, Integer.MIN_VALUE, Integer.MAX_VALUE};
        for (int symbol : none) {
            DUE.same("count(" + symbol + ", 1)", mill.count(symbol, 1), false);
        }
        int[] wrong = {-1, 65536, Integer.MIN_VALUE, Integer.MAX_VALUE};
        for (int c : wrong) {
            DUE.same("count(0, " + c + ")", mill.count(0, c), false);
        }
        DUE.same("three counts", mill.lengths(11), 2);
        DUE.same("length of 7", mill.code(7, 0), 1);
        DUE.same("length of 0", mill.code(0, 0), 2);
        DUE.same("length of 255", mill.code(255, 0), 2);
        DUE.same("count(7, 0)", mill.count(7, 0), true);
        DUE.same("two counts", mill.lengths(11), 1);
        DUE.same("7 has none", mill.code(7, 0), -1);
    }

    private static void countAll() {
        PrefixMill mill = new PrefixMill();
        mill.count(9, 5);
        mill.write(0x0101010101010203L, 8);
        mill.write(0xFFFF000000000000L, 2);
        mill.place(4);
        DUE.same("countAll()", mill.countAll(), 6);
        DUE.same("countAll() leaves PLACE", mill.at(), 4);
        mill.lengths(11);
        DUE.same("9 counts no more", mill.code(9, 0), -1);
        DUE.same("four symbols", mill.about(1), 4);
        // Counts are 2, 1, 1 and 2: as lengths these are no codes, with 2 and 3 at 2 and 1 away they are.
        DUE.same("just() of 2 1 1 2", mill.just(), -1);
        mill.count(1, 0);
        mill.count(3, 2);
        DUE.same("just() of 1 2 2", mill.just(), 2);
        DUE.same("2 stood once", mill.code(2, 0), 1);
        DUE.same("255 stood twice", mill.code(255, 0), 2);
        mill.place(10);
        DUE.same("countAll() at the end", mill.countAll(), 0);
        DUE.same("no counts", mill.lengths(11), -2);
    }

    private static void sizeAndByteAt() {
        PrefixMill mill = withTwoCodes();
        DUE.same("size() without OUT", mill.size(), 0);
        mill.write(0x0101010101010101L, 8);
        mill.encode(false);
        DUE.out("encode", mill, 255, 1);
        int[] none = {-1, 2, 6000, Integer.MIN_VALUE, Integer.MAX_VALUE};
        for (int k : none) {
            DUE.same("byteAt(" + k + ")", mill.byteAt(k), -1);
        }
        mill.place(8);
        mill.encode(false);
        DUE.out("a shorter OUT", mill, 1);
    }
}
